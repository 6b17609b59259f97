def PcG (D : va_G) (ad : Nat → Nat) (cA : Nat → ClassId) (sg : Mem) (av : List V) : Array Value → State → Prop := va_Pc (av.map (vv ad)) (fun U => va_K D vwCl (tyA cA) U ∧ NWs U ∧ SF ad (AG ad) U U.heap ∧ va_P D vwCl (WS ad cA sg) U.heap)
def QGi (D : va_G) (ad : Nat → Nat) (cA : Nat → ClassId) (r : Res) : Array Value → State → Outcome → State → Prop := va_Qi (S := Unit) (fun rr _ => rr = i32 r.1 ∧ InR r.1 ∧ RG r.2) (fun _ t => va_P D vwCl (WS ad cA r.2) t.heap) (AG ad)
def QGv (D : va_G) (ad : Nat → Nat) (cA : Nat → ClassId) (r : Res) : Array Value → State → Outcome → State → Prop := va_Qv (S := Unit) (fun _ => RG r.2) (fun _ t => va_P D vwCl (WS ad cA r.2) t.heap) (AG ad)
/-- the contract of a method that answers a number: what the program x tells, it does -/
def MCi (l : Launch) (D : va_G) (ad : Nat → Nat) (cA : Nat → ClassId) (y : MethodName) (cc : ByteArray) (nL : Nat) (ret : Option FieldType) (rm : Room) (av : List V) (sg : Mem) (x : Option Res) : Prop := AdI ad → VS av → RG sg → ∀ r, x = some r → Met l y (.code y cc nL ret :: TT) rm (PcG D ad cA sg av) (QGi D ad cA r) 0 0 (AG ad)
def MCv (l : Launch) (D : va_G) (ad : Nat → Nat) (cA : Nat → ClassId) (y : MethodName) (cc : ByteArray) (nL : Nat) (ret : Option FieldType) (rm : Room) (av : List V) (sg : Mem) (x : Option Res) : Prop := AdI ad → VS av → RG sg → ∀ r, x = some r → Met l y (.code y cc nL ret :: TT) rm (PcG D ad cA sg av) (QGv D ad cA r) 0 0 (AG ad)
def KI (K : KT) (ret : Option FieldType) : Prop := match K with
  | (_, _, _, s, _, args, below, meth, _, D, ad, cA, A, (cells, slots), Q) => meth.sig.returnType = ret ∧ meth.locks = false ∧ cells = 0 ∧ slots = 0 ∧ A = AG ad ∧ Q = fun r => MQ below (QGi D ad cA r) args s 0 0 (AG ad)
def KV (K : KT) (ret : Option FieldType) : Prop := match K with
  | (_, _, _, s, _, args, below, meth, _, D, ad, cA, A, (cells, slots), Q) => meth.sig.returnType = ret ∧ meth.locks = false ∧ cells = 0 ∧ slots = 0 ∧ A = AG ad ∧ Q = fun r => MQ below (QGv D ad cA r) args s 0 0 (AG ad)
theorem PcG_blind {D : va_G} {ad : Nat → Nat} {cA : Nat → ClassId} {sg : Mem} {av : List V} : FrameBlind (PcG D ad cA sg av) := by
  intro a U g mk q
  obtain ⟨q0, qK, qN, qF, qP⟩ := q
  exact ⟨q0, va_K.moved (u := U) (U := U.calling g mk a) (Vm.Alike.refl U.vm) qK, NWs.same (u := U) (U := U.calling g mk a) rfl qN, SF.moved (u := U) (U := U.calling g mk a) (Vm.Alike.refl U.vm) qF, qP⟩
def ent : List V → List (Option V)
  | [] => []
  | .inr (.inl z) :: t => some (.inr (.inl z)) :: none :: ent t
  | .inl z :: t => some (.inl z) :: ent t
  | .inr (.inr z) :: t => some (.inr (.inr z)) :: ent t
theorem ent_has (ad : Nat → Nat) : ∀ (av : List V) (j i : Nat) (v : V), (ent av)[i]? = some (some v) → (j + i, vv ad v) ∈ lv_args j (av.map (vv ad))
  | [], j, i, v, h => by simp [ent] at h
  | .inl z :: t, j, 0, v, h => by
    simp [ent] at h; subst h; exact List.mem_cons_self
  | .inl z :: t, j, i + 1, v, h => by
    have h1 : (ent t)[i]? = some (some v) := by simpa [ent] using h
    have h2 := ent_has ad t (j + 1) i v h1
    refine List.mem_cons_of_mem _ ?_
    have e : j + (i + 1) = j + 1 + i := by omega
    rw [e]; exact h2
  | .inr (.inr z) :: t, j, 0, v, h => by
    simp [ent] at h; subst h; exact List.mem_cons_self
  | .inr (.inr z) :: t, j, i + 1, v, h => by
    have h1 : (ent t)[i]? = some (some v) := by simpa [ent] using h
    have h2 := ent_has ad t (j + 1) i v h1
    refine List.mem_cons_of_mem _ ?_
    have e : j + (i + 1) = j + 1 + i := by omega
    rw [e]; exact h2
  | .inr (.inl z) :: t, j, 0, v, h => by
    simp [ent] at h; subst h; exact List.mem_cons_self
  | .inr (.inl z) :: t, j, 1, v, h => by
    simp [ent] at h
  | .inr (.inl z) :: t, j, i + 2, v, h => by
    have h1 : (ent t)[i]? = some (some v) := by simpa [ent] using h
    have h2 := ent_has ad t (j + 2) i v h1
    refine List.mem_cons_of_mem _ ?_
    have e : j + (i + 2) = j + 2 + i := by omega
    rw [e]; exact h2
theorem ent_in : ∀ (av : List V) (i : Nat) (v : V), (ent av)[i]? = some (some v) → v ∈ av
  | [], i, v, h => by simp [ent] at h
  | .inl z :: t, 0, v, h => by simp [ent] at h; subst h; exact List.mem_cons_self
  | .inl z :: t, i + 1, v, h => List.mem_cons_of_mem _ (ent_in t i v (by simpa [ent] using h))
  | .inr (.inr z) :: t, 0, v, h => by simp [ent] at h; subst h; exact List.mem_cons_self
  | .inr (.inr z) :: t, i + 1, v, h => List.mem_cons_of_mem _ (ent_in t i v (by simpa [ent] using h))
  | .inr (.inl z) :: t, 0, v, h => by simp [ent] at h; subst h; exact List.mem_cons_self
  | .inr (.inl z) :: t, 1, v, h => by simp [ent] at h
  | .inr (.inl z) :: t, i + 2, v, h => List.mem_cons_of_mem _ (ent_in t i v (by simpa [ent] using h))
theorem ent_pad {av : List V} {k i : Nat} {v : V} (h : (ent av ++ List.replicate k none)[i]? = some (some v)) : (ent av)[i]? = some (some v) := by
  rw [List.getElem?_append] at h
  split at h
  · exact h
  · rw [List.getElem?_replicate] at h
    split at h <;> simp at h
theorem MCi_of {l : Launch} {D : va_G} {ad : Nat → Nat} {cA : Nat → ClassId} {y : MethodName} {cc : ByteArray} {nL : Nat} {ret : Option FieldType} {rm : Room} {av : List V} {sg : Mem} {x : Option Res} {ls : List (Option V)} (k : Nat) (hy : plainName y.cls = true) (hls : ls = ent av ++ List.replicate k none) (hn : ∀ ad, (lg_sl (av.map (vv ad))).length ≤ nL)
    (h : ∀ K, KI K ret → J K rm cc y.cls nL 0 ls [] sg x) : MCi l D ad cA y cc nL ret rm av sg x := by
  intro hI hv hg r hr
  refine Met.ofW (cc := cc) (maxL := nL) (ret := ret) hy rfl ?_
  intro p e s m args below meth c s₁ B hml hPc
  obtain ⟨rfl, hK, hN, hF, hP⟩ := hPc
  have hts := atoms_spec (ws := .code y cc nL ret :: TT) B.pre
  have hown : s.vm.findClass y.cls = some m.cls := findClass_of_methodNamed B.named
  have hl := lv_entry (av.map (vv ad)) (n := nL) (hn ad)
  rw [lg_entry_eq]
  generalize (lg_sl (av.map (vv ad)) ++ List.replicate (nL - (lg_sl (av.map (vv ad))).length) Slot.unset).toArray = la at hl ⊢
  refine h (p, l, e, s, m, (av.map (vv ad)).toArray, below, meth, c, D, ad, cA, AG ad, (0, 0), fun r => MQ below (QGi D ad cA r) (av.map (vv ad)).toArray s 0 0 (AG ad)) ⟨B.returns, B.notSynchronized, rfl, rfl, rfl, rfl⟩
    ⟨B.exec, B.bytes, hml, hown, fun w hw => hts w (List.mem_cons_of_mem _ hw), hK, hI, fun k hk => ⟨k, hk, rfl⟩, hN, hF, Nat.zero_le _, Nat.zero_le _⟩ ?_ (fun _ h => by cases h) hg r hr s.heap [] la ⟨hl.1, hl.2.1, ?_⟩ hP va_S.rf
  · intro i v h1
    rw [hls] at h1
    exact hv v (ent_in av i v (ent_pad h1))
  · intro i v h1
    rw [hls] at h1
    have h2 := ent_has ad av 0 i v (ent_pad h1)
    rw [Nat.zero_add] at h2
    exact hl.2.2 _ h2
theorem MCv_of {l : Launch} {D : va_G} {ad : Nat → Nat} {cA : Nat → ClassId} {y : MethodName} {cc : ByteArray} {nL : Nat} {ret : Option FieldType} {rm : Room} {av : List V} {sg : Mem} {x : Option Res} {ls : List (Option V)} (k : Nat) (hy : plainName y.cls = true) (hls : ls = ent av ++ List.replicate k none) (hn : ∀ ad, (lg_sl (av.map (vv ad))).length ≤ nL)
    (h : ∀ K, KV K ret → J K rm cc y.cls nL 0 ls [] sg x) : MCv l D ad cA y cc nL ret rm av sg x := by
  intro hI hv hg r hr
  refine Met.ofW (cc := cc) (maxL := nL) (ret := ret) hy rfl ?_
  intro p e s m args below meth c s₁ B hml hPc
  obtain ⟨rfl, hK, hN, hF, hP⟩ := hPc
  have hts := atoms_spec (ws := .code y cc nL ret :: TT) B.pre
  have hown : s.vm.findClass y.cls = some m.cls := findClass_of_methodNamed B.named
  have hl := lv_entry (av.map (vv ad)) (n := nL) (hn ad)
  rw [lg_entry_eq]
  generalize (lg_sl (av.map (vv ad)) ++ List.replicate (nL - (lg_sl (av.map (vv ad))).length) Slot.unset).toArray = la at hl ⊢
  refine h (p, l, e, s, m, (av.map (vv ad)).toArray, below, meth, c, D, ad, cA, AG ad, (0, 0), fun r => MQ below (QGv D ad cA r) (av.map (vv ad)).toArray s 0 0 (AG ad)) ⟨B.returns, B.notSynchronized, rfl, rfl, rfl, rfl⟩
    ⟨B.exec, B.bytes, hml, hown, fun w hw => hts w (List.mem_cons_of_mem _ hw), hK, hI, fun k hk => ⟨k, hk, rfl⟩, hN, hF, Nat.zero_le _, Nat.zero_le _⟩ ?_ (fun _ h => by cases h) hg r hr s.heap [] la ⟨hl.1, hl.2.1, ?_⟩ hP va_S.rf
  · intro i v h1
    rw [hls] at h1
    exact hv v (ent_in av i v (ent_pad h1))
  · intro i v h1
    rw [hls] at h1
    have h2 := ent_has ad av 0 i v (ent_pad h1)
    rw [Nat.zero_add] at h2
    exact hl.2.2 _ h2
theorem rlo_in (j : Nat) : InR (rlo j) := by
  unfold rlo InR
  match j with
  | 0 => decide
  | 1 => decide
  | 2 => decide
  | 3 => decide
  | j + 4 => simp
theorem rhi_in (j : Nat) : InR (rhi j) := by
  unfold rhi InR
  match j with
  | 0 => decide
  | 1 => decide
  | 2 => decide
  | 3 => decide
  | j + 4 => simp
theorem TT_in0 {ws : List Cond} (h : ∀ w ∈ ws, w ∈ TT) : GoodIn TT ws := fun w hw => ⟨h w hw, good_of_word (TT_good (h w hw))⟩
def notMH (y : MethodName) (n : Nat) : Prop := y.cls ≠ "java/lang/invoke/MethodHandle" ∧ y.cls ≠ "java/lang/invoke/VarHandle" ∧ (parseMethodDescriptor y.desc).map (fun d => d.parameters.length) = some n
def CV (own : String) (idx : Nat) (C : String) (y : MethodName) (bytes : ByteArray) (maxL : Nat) (ret : Option FieldType) (n : Nat) : Prop := Cond.methodLink own idx y ∈ TT ∧ Cond.instanceMethod y ∈ TT ∧ Cond.selects C y y ∈ TT ∧ Cond.initialized C ∈ TT ∧ Cond.code y bytes maxL ret ∈ TT ∧ y.cls = C ∧ notMH y n
def CS (own : String) (idx : Nat) (y : MethodName) (bytes : ByteArray) (maxL : Nat) (ret : Option FieldType) (n : Nat) : Prop := Cond.methodLink own idx y ∈ TT ∧ Cond.static y ∈ TT ∧ Cond.initialized y.cls ∈ TT ∧ Cond.code y bytes maxL ret ∈ TT ∧ notMH y n
def CN (own host : String) (idx : Nat) (y : MethodName) (bytes : ByteArray) (maxL : Nat) (ret : Option FieldType) (n : Nat) : Prop := Cond.methodLinkNest own idx y host ∈ NW ∧ Cond.static y ∈ TT ∧ Cond.initialized y.cls ∈ TT ∧ Cond.code y bytes maxL ret ∈ TT ∧ notMH y n
theorem CV.good {own : String} {idx : Nat} {C : String} {y : MethodName} {bytes : ByteArray} {maxL : Nat} {ret : Option FieldType} {n : Nat} (h : CV own idx C y bytes maxL ret n) : GoodIn TT (wsV own idx C y (.code y bytes maxL ret :: TT)) := by
  refine TT_in0 (fun w hw => ?_)
  simp only [wsV, List.cons_append, List.nil_append, List.mem_cons] at hw
  rcases hw with rfl | rfl | rfl | rfl | rfl | hw
  · exact h.1
  · exact h.2.1
  · exact h.2.2.1
  · exact h.2.2.2.1
  · exact h.2.2.2.2.1
  · exact hw
theorem CS.good {own : String} {idx : Nat} {y : MethodName} {bytes : ByteArray} {maxL : Nat} {ret : Option FieldType} {n : Nat} (h : CS own idx y bytes maxL ret n) : GoodIn TT (va_wsS own idx y (.code y bytes maxL ret :: TT)) := by
  refine TT_in0 (fun w hw => ?_)
  simp only [va_wsS, List.cons_append, List.nil_append, List.mem_cons] at hw
  rcases hw with rfl | rfl | rfl | rfl | hw
  · exact h.1
  · exact h.2.1
  · exact h.2.2.1
  · exact h.2.2.2.1
  · exact hw
theorem CN.good {y : MethodName} {bytes : ByteArray} {maxL : Nat} {ret : Option FieldType} (h : Cond.code y bytes maxL ret ∈ TT) : GoodIn TT (.code y bytes maxL ret :: TT) := by
  refine TT_in0 (fun w hw => ?_)
  rcases List.mem_cons.mp hw with rfl | hw
  · exact h
  · exact hw
def RM (rm rm' : Room) (nL' : Nat) : Prop := rm'.cells = 0 ∧ rm'.slots = 0 ∧ rm'.frames + 1 ≤ rm.frames ∧ 8 + (nL' + 11) + rm'.locals ≤ rm.locals
section CALLS
variable {K : KT} {rm : Room} {cc : ByteArray} {own : String} {nL pc : Nat} {ls : List (Option V)} {st : List V} {sg : Mem} {x : Option Res}
theorem j_iret {a : Int} (hq : KI K (some .int)) (hd : decode cc pc = .ok (.ireturn, 1)) : J K rm cc own nL pc ls [.inl a] sg (some (a, sg)) := by
  obtain ⟨p, l, e, s, m, args, below, meth, c, D, ad, cA, A, ⟨cells, slots⟩, Q⟩ := K
  intro C hl hs hg r hr H locs la hla hP hS
  obtain ⟨hx, hb, hml, hown, hts, hK, hI, hA, hN, hF, hc1, hc2⟩ := id C
  obtain ⟨q1, q2, q3, q4, q5, q6⟩ := hq
  subst q3; subst q4; subst q5; subst q6
  cases hr
  exact W.iret hx hb q1 (fun t ht hW => ⟨⟨i32 a, (), rfl, ⟨rfl, hs.hd, hg⟩, (by rw [← ht] at hP; exact hP)⟩, hS.F ht⟩) hS.2.2 hd q2
theorem j_zret {a : Int} (hq : KI K (some .boolean)) (hd : decode cc pc = .ok (.ireturn, 1)) : J K rm cc own nL pc ls [.inl a] sg (zr a sg) := by
  obtain ⟨p, l, e, s, m, args, below, meth, c, D, ad, cA, A, ⟨cells, slots⟩, Q⟩ := K
  intro C hl hs hg r hr H locs la hla hP hS
  obtain ⟨hx, hb, hml, hown, hts, hK, hI, hA, hN, hF, hc1, hc2⟩ := id C
  obtain ⟨q1, q2, q3, q4, q5, q6⟩ := hq
  subst q3; subst q4; subst q5; subst q6
  unfold zr at hr
  by_cases hz : a = 0 ∨ a = 1
  · rw [if_pos hz] at hr
    cases hr
    exact W.zret hx hb q1 (nar_z hz).1 (fun t ht hW => ⟨⟨i32 a, (), rfl, ⟨rfl, hs.hd, hg⟩, (by rw [← ht] at hP; exact hP)⟩, hS.F ht⟩) hS.2.2 hd q2
  · rw [if_neg hz] at hr; cases hr
theorem j_vret (hq : KV K none) (hd : decode cc pc = .ok (.return_, 1)) : J K rm cc own nL pc ls [] sg (some (0, sg)) := by
  obtain ⟨p, l, e, s, m, args, below, meth, c, D, ad, cA, A, ⟨cells, slots⟩, Q⟩ := K
  intro C hl hs hg r hr H locs la hla hP hS
  obtain ⟨hx, hb, hml, hown, hts, hK, hI, hA, hN, hF, hc1, hc2⟩ := id C
  obtain ⟨q1, q2, q3, q4, q5, q6⟩ := hq
  subst q3; subst q4; subst q5; subst q6
  cases hr
  exact W.vret hx hb q1 (fun t ht hW => ⟨⟨(), rfl, hg, (by rw [← ht] at hP; exact hP)⟩, hS.F ht⟩) hS.2.2 hd q2
theorem j_callVi {y : MethodName} {cc2 : ByteArray} {nL2 idx n : Nat} {ret : Option FieldType} {rm2 : Room} {avs st0 : List V} {xx : Option Res} {kk : Int → Mem → Option Res} {t ci N : Nat} {fs : List (Option Nat)} {C : String} {T : u_T} (hM : MCi (kl K) (kD K) (kad K) (kcA K) y cc2 nL2 ret rm2 (.inr (.inr t) :: avs) sg xx) (hw : CV own idx C y cc2 nL2 ret n) (hsh : SH t = some (.inr (ci, fs))) (hci : vwCl[ci]? = some (C, T, N)) (hR : RM rm rm2 nL2) (hn : avs.length = n) (hst : st0 = avs.reverse ++ .inr (.inr t) :: st) (hcat : (st.map fun v => (vv (fun n => n) v).category).sum ≤ 8) (hd : decode cc pc = .ok (.invokevirtual idx, 3)) (k : ∀ r sg2, J K rm cc own nL (pc + 3) ls (.inl r :: st) sg2 (kk r sg2)) : J K rm cc own nL pc ls st0 sg (bnd xx kk) := by
  obtain ⟨p, l, e, s, m, args, below, meth, c, D, ad, cA, A, ⟨cells, slots⟩, Q⟩ := K
  intro C hl hs hg r hr H locs la hla hP hS
  obtain ⟨hx, hb, hml, hown, hts, hK, hI, hA, hN, hF, hc1, hc2⟩ := id C
  cases hxx : xx with
  | none => rw [hxx] at hr; cases hr
  | some r0 =>
    rw [hxx] at hr
    have hr : kk r0.1 r0.2 = some r := hr
    subst hst
    have hAA : ∀ q, AG ad q → A q := fun q hq => by obtain ⟨k1, h1, rfl⟩ := hq; exact hA k1 h1
    have hVa : VS (.inr (.inr t) :: avs) := fun v hv => (List.mem_cons.mp hv).elim (fun e => by rw [e]; trivial) (fun h => hs v (List.mem_append_left _ (List.mem_reverse.mpr h)))
    have hm : Met l y (.code y cc2 nL2 ret :: TT) rm2 (PcG D ad cA sg (.inr (.inr t) :: avs)) (QGi D ad cA r0) 0 0 (AG ad) := hM hI hVa hg r0 hxx
    have hVr : VS st := fun v hv => hs v (List.mem_append_right _ (List.mem_cons_of_mem _ hv))
    have hPre : ∀ U : State, U.heap = H → s.WarmedH U.vm → PcG D ad cA sg (.inr (.inr t) :: avs) ((.inr (.inr t) :: avs).map (vv ad)).toArray U := fun U hU hW =>
      ⟨rfl, va_K.moved hW.alike hK, hN.warm hW, by rw [hU]; exact ((hF.kept hS.2.1).narrow hAA).moved hW.alike, by rw [hU]; exact hP⟩
    have hroom : 2 * (F0 m pc la ((avs.reverse ++ .inr (.inr t) :: st).map (vv ad))).monitorRoom + ((st.map (vv ad)).map fun v => v.category).sum ≤ 8 := by
      rw [cat_map]; show 2 * 0 + _ ≤ 8; omega
    refine va_calli (va_runV (n := n) (As := avs.map (vv ad)) (rest := st.map (vv ad)) (b := ad t) (nL := nL) ⟨hx, hb, hml, hown, hts⟩ hm (cwV n hts hw.good rfl hR.1 hR.2.1 hw.2.2.2.2.2 ⟨hR.2.2.1, hR.2.2.2⟩) ⟨PcG_blind, va_recv hK hP hci (WS_obj ad cA sg hsh), hPre⟩ rfl (by rw [List.length_map]; exact hn) hla.1 (by simp [vv]) hroom hd ⟨hc1, hc2⟩) hS (fun q _ h => hAA q h) hAA (fun rr u t1 H1 locs1 ht hvm hp hB hz hk hS1 => ?_)
    have h9 := k _ _ C hl (hVr.cons (show vin (.inl r0.1) from hp.2.1)) hp.2.2 r hr H1 locs1 la hla (by rw [← ht]; exact hB) hS1
    rw [hp.1]; exact h9
theorem j_callVv {y : MethodName} {cc2 : ByteArray} {nL2 idx n : Nat} {ret : Option FieldType} {rm2 : Room} {avs st0 : List V} {xx : Option Res} {kk : Int → Mem → Option Res} {t ci N : Nat} {fs : List (Option Nat)} {C : String} {T : u_T} (hM : MCv (kl K) (kD K) (kad K) (kcA K) y cc2 nL2 ret rm2 (.inr (.inr t) :: avs) sg xx) (hw : CV own idx C y cc2 nL2 ret n) (hsh : SH t = some (.inr (ci, fs))) (hci : vwCl[ci]? = some (C, T, N)) (hR : RM rm rm2 nL2) (hn : avs.length = n) (hst : st0 = avs.reverse ++ .inr (.inr t) :: st) (hcat : (st.map fun v => (vv (fun n => n) v).category).sum ≤ 8) (hd : decode cc pc = .ok (.invokevirtual idx, 3)) (k : ∀ r sg2, J K rm cc own nL (pc + 3) ls st sg2 (kk r sg2)) : J K rm cc own nL pc ls st0 sg (bnd xx kk) := by
  obtain ⟨p, l, e, s, m, args, below, meth, c, D, ad, cA, A, ⟨cells, slots⟩, Q⟩ := K
  intro C hl hs hg r hr H locs la hla hP hS
  obtain ⟨hx, hb, hml, hown, hts, hK, hI, hA, hN, hF, hc1, hc2⟩ := id C
  cases hxx : xx with
  | none => rw [hxx] at hr; cases hr
  | some r0 =>
    rw [hxx] at hr
    have hr : kk r0.1 r0.2 = some r := hr
    subst hst
    have hAA : ∀ q, AG ad q → A q := fun q hq => by obtain ⟨k1, h1, rfl⟩ := hq; exact hA k1 h1
    have hVa : VS (.inr (.inr t) :: avs) := fun v hv => (List.mem_cons.mp hv).elim (fun e => by rw [e]; trivial) (fun h => hs v (List.mem_append_left _ (List.mem_reverse.mpr h)))
    have hm : Met l y (.code y cc2 nL2 ret :: TT) rm2 (PcG D ad cA sg (.inr (.inr t) :: avs)) (QGv D ad cA r0) 0 0 (AG ad) := hM hI hVa hg r0 hxx
    have hVr : VS st := fun v hv => hs v (List.mem_append_right _ (List.mem_cons_of_mem _ hv))
    have hPre : ∀ U : State, U.heap = H → s.WarmedH U.vm → PcG D ad cA sg (.inr (.inr t) :: avs) ((.inr (.inr t) :: avs).map (vv ad)).toArray U := fun U hU hW =>
      ⟨rfl, va_K.moved hW.alike hK, hN.warm hW, by rw [hU]; exact ((hF.kept hS.2.1).narrow hAA).moved hW.alike, by rw [hU]; exact hP⟩
    have hroom : 2 * (F0 m pc la ((avs.reverse ++ .inr (.inr t) :: st).map (vv ad))).monitorRoom + ((st.map (vv ad)).map fun v => v.category).sum ≤ 8 := by
      rw [cat_map]; show 2 * 0 + _ ≤ 8; omega
    refine va_callv (va_runV (n := n) (As := avs.map (vv ad)) (rest := st.map (vv ad)) (b := ad t) (nL := nL) ⟨hx, hb, hml, hown, hts⟩ hm (cwV n hts hw.good rfl hR.1 hR.2.1 hw.2.2.2.2.2 ⟨hR.2.2.1, hR.2.2.2⟩) ⟨PcG_blind, va_recv hK hP hci (WS_obj ad cA sg hsh), hPre⟩ rfl (by rw [List.length_map]; exact hn) hla.1 (by simp [vv]) hroom hd ⟨hc1, hc2⟩) hS (fun q _ h => hAA q h) hAA (fun u t1 H1 locs1 ht hvm hp hB hz hk hS1 => ?_)
    exact k _ _ C hl hVr hp r hr H1 locs1 la hla (by rw [← ht]; exact hB) hS1
theorem j_callSi {y : MethodName} {cc2 : ByteArray} {nL2 idx n : Nat} {ret : Option FieldType} {rm2 : Room} {avs st0 : List V} {xx : Option Res} {kk : Int → Mem → Option Res} (hM : MCi (kl K) (kD K) (kad K) (kcA K) y cc2 nL2 ret rm2 avs sg xx) (hw : CS own idx y cc2 nL2 ret n) (hR : RM rm rm2 nL2) (hn : avs.length = n) (hst : st0 = avs.reverse ++ st) (hcat : (st.map fun v => (vv (fun n => n) v).category).sum ≤ 8) (hd : decode cc pc = .ok (.invokestatic idx, 3)) (k : ∀ r sg2, J K rm cc own nL (pc + 3) ls (.inl r :: st) sg2 (kk r sg2)) : J K rm cc own nL pc ls st0 sg (bnd xx kk) := by
  obtain ⟨p, l, e, s, m, args, below, meth, c, D, ad, cA, A, ⟨cells, slots⟩, Q⟩ := K
  intro C hl hs hg r hr H locs la hla hP hS
  obtain ⟨hx, hb, hml, hown, hts, hK, hI, hA, hN, hF, hc1, hc2⟩ := id C
  cases hxx : xx with
  | none => rw [hxx] at hr; cases hr
  | some r0 =>
    rw [hxx] at hr
    have hr : kk r0.1 r0.2 = some r := hr
    subst hst
    have hAA : ∀ q, AG ad q → A q := fun q hq => by obtain ⟨k1, h1, rfl⟩ := hq; exact hA k1 h1
    have hVa : VS avs := fun v hv => hs v (List.mem_append_left _ (List.mem_reverse.mpr hv))
    have hm : Met l y (.code y cc2 nL2 ret :: TT) rm2 (PcG D ad cA sg avs) (QGi D ad cA r0) 0 0 (AG ad) := hM hI hVa hg r0 hxx
    have hVr : VS st := fun v hv => hs v (List.mem_append_right _ hv)
    have hPre : ∀ U : State, U.heap = H → s.WarmedH U.vm → PcG D ad cA sg avs (avs.map (vv ad)).toArray U := fun U hU hW =>
      ⟨rfl, va_K.moved hW.alike hK, hN.warm hW, by rw [hU]; exact ((hF.kept hS.2.1).narrow hAA).moved hW.alike, by rw [hU]; exact hP⟩
    have hroom : 2 * (F0 m pc la ((avs.reverse ++ st).map (vv ad))).monitorRoom + ((st.map (vv ad)).map fun v => v.category).sum ≤ 8 := by
      rw [cat_map]; show 2 * 0 + _ ≤ 8; omega
    refine va_calli (va_runS (n := n) (As := avs.map (vv ad)) (rest := st.map (vv ad)) (nL := nL) ⟨hx, hb, hml, hown, hts⟩ hm (va_cwS n hts hw.good rfl hR.1 hR.2.1 hw.2.2.2.2 ⟨hR.2.2.1, hR.2.2.2⟩) ⟨PcG_blind, hPre⟩ rfl (by rw [List.length_map]; exact hn) hla.1 (by simp [vv]) hroom hd ⟨hc1, hc2⟩) hS (fun q _ h => hAA q h) hAA (fun rr u t1 H1 locs1 ht hvm hp hB hz hk hS1 => ?_)
    have h9 := k _ _ C hl (hVr.cons (show vin (.inl r0.1) from hp.2.1)) hp.2.2 r hr H1 locs1 la hla (by rw [← ht]; exact hB) hS1
    rw [hp.1]; exact h9
theorem j_callSv {y : MethodName} {cc2 : ByteArray} {nL2 idx n : Nat} {ret : Option FieldType} {rm2 : Room} {avs st0 : List V} {xx : Option Res} {kk : Int → Mem → Option Res} (hM : MCv (kl K) (kD K) (kad K) (kcA K) y cc2 nL2 ret rm2 avs sg xx) (hw : CS own idx y cc2 nL2 ret n) (hR : RM rm rm2 nL2) (hn : avs.length = n) (hst : st0 = avs.reverse ++ st) (hcat : (st.map fun v => (vv (fun n => n) v).category).sum ≤ 8) (hd : decode cc pc = .ok (.invokestatic idx, 3)) (k : ∀ r sg2, J K rm cc own nL (pc + 3) ls st sg2 (kk r sg2)) : J K rm cc own nL pc ls st0 sg (bnd xx kk) := by
  obtain ⟨p, l, e, s, m, args, below, meth, c, D, ad, cA, A, ⟨cells, slots⟩, Q⟩ := K
  intro C hl hs hg r hr H locs la hla hP hS
  obtain ⟨hx, hb, hml, hown, hts, hK, hI, hA, hN, hF, hc1, hc2⟩ := id C
  cases hxx : xx with
  | none => rw [hxx] at hr; cases hr
  | some r0 =>
    rw [hxx] at hr
    have hr : kk r0.1 r0.2 = some r := hr
    subst hst
    have hAA : ∀ q, AG ad q → A q := fun q hq => by obtain ⟨k1, h1, rfl⟩ := hq; exact hA k1 h1
    have hVa : VS avs := fun v hv => hs v (List.mem_append_left _ (List.mem_reverse.mpr hv))
    have hm : Met l y (.code y cc2 nL2 ret :: TT) rm2 (PcG D ad cA sg avs) (QGv D ad cA r0) 0 0 (AG ad) := hM hI hVa hg r0 hxx
    have hVr : VS st := fun v hv => hs v (List.mem_append_right _ hv)
    have hPre : ∀ U : State, U.heap = H → s.WarmedH U.vm → PcG D ad cA sg avs (avs.map (vv ad)).toArray U := fun U hU hW =>
      ⟨rfl, va_K.moved hW.alike hK, hN.warm hW, by rw [hU]; exact ((hF.kept hS.2.1).narrow hAA).moved hW.alike, by rw [hU]; exact hP⟩
    have hroom : 2 * (F0 m pc la ((avs.reverse ++ st).map (vv ad))).monitorRoom + ((st.map (vv ad)).map fun v => v.category).sum ≤ 8 := by
      rw [cat_map]; show 2 * 0 + _ ≤ 8; omega
    refine va_callv (va_runS (n := n) (As := avs.map (vv ad)) (rest := st.map (vv ad)) (nL := nL) ⟨hx, hb, hml, hown, hts⟩ hm (va_cwS n hts hw.good rfl hR.1 hR.2.1 hw.2.2.2.2 ⟨hR.2.2.1, hR.2.2.2⟩) ⟨PcG_blind, hPre⟩ rfl (by rw [List.length_map]; exact hn) hla.1 (by simp [vv]) hroom hd ⟨hc1, hc2⟩) hS (fun q _ h => hAA q h) hAA (fun u t1 H1 locs1 ht hvm hp hB hz hk hS1 => ?_)
    exact k _ _ C hl hVr hp r hr H1 locs1 la hla (by rw [← ht]; exact hB) hS1
theorem j_callNi {y : MethodName} {cc2 : ByteArray} {nL2 idx n : Nat} {ret : Option FieldType} {rm2 : Room} {avs st0 : List V} {xx : Option Res} {kk : Int → Mem → Option Res} {host : String} (hM : MCi (kl K) (kD K) (kad K) (kcA K) y cc2 nL2 ret rm2 avs sg xx) (hw : CN own host idx y cc2 nL2 ret n) (hR : RM rm rm2 nL2) (hn : avs.length = n) (hst : st0 = avs.reverse ++ st) (hcat : (st.map fun v => (vv (fun n => n) v).category).sum ≤ 8) (hd : decode cc pc = .ok (.invokestatic idx, 3)) (k : ∀ r sg2, J K rm cc own nL (pc + 3) ls (.inl r :: st) sg2 (kk r sg2)) : J K rm cc own nL pc ls st0 sg (bnd xx kk) := by
  obtain ⟨p, l, e, s, m, args, below, meth, c, D, ad, cA, A, ⟨cells, slots⟩, Q⟩ := K
  intro C hl hs hg r hr H locs la hla hP hS
  obtain ⟨hx, hb, hml, hown, hts, hK, hI, hA, hN, hF, hc1, hc2⟩ := id C
  cases hxx : xx with
  | none => rw [hxx] at hr; cases hr
  | some r0 =>
    rw [hxx] at hr
    have hr : kk r0.1 r0.2 = some r := hr
    subst hst
    have hAA : ∀ q, AG ad q → A q := fun q hq => by obtain ⟨k1, h1, rfl⟩ := hq; exact hA k1 h1
    have hVa : VS avs := fun v hv => hs v (List.mem_append_left _ (List.mem_reverse.mpr hv))
    have hm : Met l y (.code y cc2 nL2 ret :: TT) rm2 (PcG D ad cA sg avs) (QGi D ad cA r0) 0 0 (AG ad) := hM hI hVa hg r0 hxx
    have hVr : VS st := fun v hv => hs v (List.mem_append_right _ hv)
    have hPre : ∀ U : State, U.heap = H → s.WarmedH U.vm → PcG D ad cA sg avs (avs.map (vv ad)).toArray U := fun U hU hW =>
      ⟨rfl, va_K.moved hW.alike hK, hN.warm hW, by rw [hU]; exact ((hF.kept hS.2.1).narrow hAA).moved hW.alike, by rw [hU]; exact hP⟩
    have hroom : 2 * (F0 m pc la ((avs.reverse ++ st).map (vv ad))).monitorRoom + ((st.map (vv ad)).map fun v => v.category).sum ≤ 8 := by
      rw [cat_map]; show 2 * 0 + _ ≤ 8; omega
    refine va_calli (va_runSN (n := n) (As := avs.map (vv ad)) (rest := st.map (vv ad)) (nL := nL) ⟨hx, hb, hml, hown, hts⟩ hm ⟨va_cnB n hts (CN.good hw.2.2.2.1) rfl hR.1 hR.2.1 (hN _ hw.1) (hts _ hw.2.2.1) hw.2.2.2.2 ⟨hR.2.2.1, hR.2.2.2⟩, hts _ hw.2.1, trivial⟩ ⟨PcG_blind, hPre⟩ rfl (by rw [List.length_map]; exact hn) hla.1 (by simp [vv]) hroom hd ⟨hc1, hc2⟩) hS (fun q _ h => hAA q h) hAA (fun rr u t1 H1 locs1 ht hvm hp hB hz hk hS1 => ?_)
    have h9 := k _ _ C hl (hVr.cons (show vin (.inl r0.1) from hp.2.1)) hp.2.2 r hr H1 locs1 la hla (by rw [← ht]; exact hB) hS1
    rw [hp.1]; exact h9
theorem j_callNv {y : MethodName} {cc2 : ByteArray} {nL2 idx n : Nat} {ret : Option FieldType} {rm2 : Room} {avs st0 : List V} {xx : Option Res} {kk : Int → Mem → Option Res} {host : String} (hM : MCv (kl K) (kD K) (kad K) (kcA K) y cc2 nL2 ret rm2 avs sg xx) (hw : CN own host idx y cc2 nL2 ret n) (hR : RM rm rm2 nL2) (hn : avs.length = n) (hst : st0 = avs.reverse ++ st) (hcat : (st.map fun v => (vv (fun n => n) v).category).sum ≤ 8) (hd : decode cc pc = .ok (.invokestatic idx, 3)) (k : ∀ r sg2, J K rm cc own nL (pc + 3) ls st sg2 (kk r sg2)) : J K rm cc own nL pc ls st0 sg (bnd xx kk) := by
  obtain ⟨p, l, e, s, m, args, below, meth, c, D, ad, cA, A, ⟨cells, slots⟩, Q⟩ := K
  intro C hl hs hg r hr H locs la hla hP hS
  obtain ⟨hx, hb, hml, hown, hts, hK, hI, hA, hN, hF, hc1, hc2⟩ := id C
  cases hxx : xx with
  | none => rw [hxx] at hr; cases hr
  | some r0 =>
    rw [hxx] at hr
    have hr : kk r0.1 r0.2 = some r := hr
    subst hst
    have hAA : ∀ q, AG ad q → A q := fun q hq => by obtain ⟨k1, h1, rfl⟩ := hq; exact hA k1 h1
    have hVa : VS avs := fun v hv => hs v (List.mem_append_left _ (List.mem_reverse.mpr hv))
    have hm : Met l y (.code y cc2 nL2 ret :: TT) rm2 (PcG D ad cA sg avs) (QGv D ad cA r0) 0 0 (AG ad) := hM hI hVa hg r0 hxx
    have hVr : VS st := fun v hv => hs v (List.mem_append_right _ hv)
    have hPre : ∀ U : State, U.heap = H → s.WarmedH U.vm → PcG D ad cA sg avs (avs.map (vv ad)).toArray U := fun U hU hW =>
      ⟨rfl, va_K.moved hW.alike hK, hN.warm hW, by rw [hU]; exact ((hF.kept hS.2.1).narrow hAA).moved hW.alike, by rw [hU]; exact hP⟩
    have hroom : 2 * (F0 m pc la ((avs.reverse ++ st).map (vv ad))).monitorRoom + ((st.map (vv ad)).map fun v => v.category).sum ≤ 8 := by
      rw [cat_map]; show 2 * 0 + _ ≤ 8; omega
    refine va_callv (va_runSN (n := n) (As := avs.map (vv ad)) (rest := st.map (vv ad)) (nL := nL) ⟨hx, hb, hml, hown, hts⟩ hm ⟨va_cnB n hts (CN.good hw.2.2.2.1) rfl hR.1 hR.2.1 (hN _ hw.1) (hts _ hw.2.2.1) hw.2.2.2.2 ⟨hR.2.2.1, hR.2.2.2⟩, hts _ hw.2.1, trivial⟩ ⟨PcG_blind, hPre⟩ rfl (by rw [List.length_map]; exact hn) hla.1 (by simp [vv]) hroom hd ⟨hc1, hc2⟩) hS (fun q _ h => hAA q h) hAA (fun u t1 H1 locs1 ht hvm hp hB hz hk hS1 => ?_)
    exact k _ _ C hl hVr hp r hr H1 locs1 la hla (by rw [← ht]; exact hB) hS1
theorem j_acopy {q0 q1 n0 n1 idx : Nat} {sp dp n : Int} {kk : Mem → Option Res} (hw : Cond.methodLink own idx arraycopyName ∈ TT ∧ Cond.native arraycopyName ∈ TT ∧ Cond.static arraycopyName ∈ TT ∧ Cond.initialized "java/lang/System" ∈ TT) (h0 : SH q0 = some (.inl (0, n0))) (h1 : SH q1 = some (.inl (0, n1))) (hR : 1 ≤ rm.frames ∧ ((st.map fun v => (vv (fun n => n) v).category).sum + (nativeFrameWords "java/lang/System" "arraycopy" 5 + 11) ≤ rm.locals)) (hd : decode cc pc = .ok (.invokestatic idx, 3)) (k : ∀ sg2, J K rm cc own nL (pc + 3) ls st sg2 (kk sg2)) : J K rm cc own nL pc ls (.inl n :: .inl dp :: .inr (.inr q1) :: .inl sp :: .inr (.inr q0) :: st) sg (acp sg q0 n0 sp q1 n1 dp n kk) := by
  obtain ⟨p, l, e, s, m, args, below, meth, c, D, ad, cA, A, ⟨cells, slots⟩, Q⟩ := K
  intro C hl hs hg r hr H locs la hla hP hS
  obtain ⟨hx, hb, hml, hown, hts, hK, hI, hA, hN, hF, hc1, hc2⟩ := id C
  have hn : InR n := hs.hd
  have hdp : InR dp := hs.tl.hd
  have hsp : InR sp := hs.tl.tl.tl.hd
  unfold acp at hr
  by_cases hi : 0 ≤ sp ∧ 0 ≤ dp ∧ 0 ≤ n ∧ sp.toNat + n.toNat ≤ n0 ∧ dp.toNat + n.toNat ≤ n1
  · rw [if_pos hi] at hr
    have ng : ∀ {a : Int}, InR a → 0 ≤ a → ¬ i32 a < 0 := fun {a} ha h0 z => by rw [← i32_0, i32_lt ha in_0] at z; omega
    refine va_copyi hx hb (by rw [hml, hla.1]) hown (hts _ hw.1) (hts _ hw.2.1) (hts _ hw.2.2.1) (hts _ hw.2.2.2) hK hP (WS_D hI hA) hS q0 q1 0 0 (WS_arr ad cA sg h0) (WS_arr ad cA sg h1) (ty := .int) rfl rfl rfl (ng hsp hi.1) (ng hdp hi.2.1) (ng hn hi.2.2.1) (by rw [i32_nat hsp, i32_nat hn]; exact hi.2.2.2.1) (by rw [i32_nat hdp, i32_nat hn]; exact hi.2.2.2.2) (fun _ _ => rfl) hR.1 (by rw [cat_map]; exact hR.2) hd (fun H1 locs1 hP1 _ hS1 => ?_)
    rw [i32_nat hsp, i32_nat hdp, i32_nat hn, WS_cpA ad cA sg h1] at hP1
    exact k _ C hl hs.tl.tl.tl.tl.tl (RG_cpm hg _ _ _ _ _) r hr H1 locs1 la hla hP1 hS1
  · rw [if_neg hi] at hr; cases hr
theorem j_gsLo {idx : Nat} (hw : Cond.fieldLink own idx RX10 "RULES_LOW" "[I" ∈ TT) (hd : decode cc pc = .ok (.getstatic idx, 3)) (k : J K rm cc own nL (pc + 3) ls (.inr (.inr 1000) :: st) sg x) : J K rm cc own nL pc ls st sg x := by
  obtain ⟨p, l, e, s, m, args, below, meth, c, D, ad, cA, A, ⟨cells, slots⟩, Q⟩ := K
  intro C hl hs hg r hr H locs la hla hP hS
  obtain ⟨hx, hb, hml, hown, hts, hK, hI, hA, hN, hF, hc1, hc2⟩ := id C
  exact va_gets hx hb hF.1.1 hS hown (hts _ hw) (fun _ h => h) hd (k C hl (hs.cons trivial) hg r hr H locs la hla hP hS)
theorem j_saLo {a : Int} {kk : Int → Option Res} (hd : decode cc pc = .ok (.iaload, 1)) (k : ∀ v, J K rm cc own nL (pc + 1) ls (.inl v :: st) sg (kk v)) : J K rm cc own nL pc ls (.inl a :: .inr (.inr 1000) :: st) sg (rd rlo a 4 kk) := by
  obtain ⟨p, l, e, s, m, args, below, meth, c, D, ad, cA, A, ⟨cells, slots⟩, Q⟩ := K
  intro C hl hs hg r hr H locs la hla hP hS
  obtain ⟨hx, hb, hml, hown, hts, hK, hI, hA, hN, hF, hc1, hc2⟩ := id C
  have ha : InR a := hs.hd
  unfold rd at hr
  by_cases hi : 0 ≤ a ∧ a < (4 : Nat)
  · rw [if_pos hi] at hr
    refine va_ti hx hb hF.1.2 hS (i32_ix ha hi) (v := .int (i32 (rlo a.toNat))) (by rw [i32_nat ha]) hd ?_
    exact k _ C hl (hs.tl.tl.cons (show InR (rlo a.toNat) from rlo_in _)) hg r hr H locs la hla hP hS
  · rw [if_neg hi] at hr; cases hr
theorem j_gsHi {idx : Nat} (hw : Cond.fieldLink own idx RX10 "RULES_HIGH" "[I" ∈ TT) (hd : decode cc pc = .ok (.getstatic idx, 3)) (k : J K rm cc own nL (pc + 3) ls (.inr (.inr 1001) :: st) sg x) : J K rm cc own nL pc ls st sg x := by
  obtain ⟨p, l, e, s, m, args, below, meth, c, D, ad, cA, A, ⟨cells, slots⟩, Q⟩ := K
  intro C hl hs hg r hr H locs la hla hP hS
  obtain ⟨hx, hb, hml, hown, hts, hK, hI, hA, hN, hF, hc1, hc2⟩ := id C
  exact va_gets hx hb hF.2.1 hS hown (hts _ hw) (fun _ h => h) hd (k C hl (hs.cons trivial) hg r hr H locs la hla hP hS)
theorem j_saHi {a : Int} {kk : Int → Option Res} (hd : decode cc pc = .ok (.iaload, 1)) (k : ∀ v, J K rm cc own nL (pc + 1) ls (.inl v :: st) sg (kk v)) : J K rm cc own nL pc ls (.inl a :: .inr (.inr 1001) :: st) sg (rd rhi a 4 kk) := by
  obtain ⟨p, l, e, s, m, args, below, meth, c, D, ad, cA, A, ⟨cells, slots⟩, Q⟩ := K
  intro C hl hs hg r hr H locs la hla hP hS
  obtain ⟨hx, hb, hml, hown, hts, hK, hI, hA, hN, hF, hc1, hc2⟩ := id C
  have ha : InR a := hs.hd
  unfold rd at hr
  by_cases hi : 0 ≤ a ∧ a < (4 : Nat)
  · rw [if_pos hi] at hr
    refine va_ti hx hb hF.2.2 hS (i32_ix ha hi) (v := .int (i32 (rhi a.toNat))) (by rw [i32_nat ha]) hd ?_
    exact k _ C hl (hs.tl.tl.cons (show InR (rhi a.toNat) from rhi_in _)) hg r hr H locs la hla hP hS
  · rw [if_neg hi] at hr; cases hr
end CALLS
