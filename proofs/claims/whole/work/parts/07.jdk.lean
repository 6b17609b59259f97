theorem MCi_ofF {l : Launch} {D : va_G} {ad : Nat → Nat} {cA : Nat → ClassId} {y : MethodName} {cc : ByteArray} {nL : Nat} {ret : Option FieldType} {rm : Room} {own : String} {av : List V} {sg : Mem} {x : Option Res} {ls : List (Option V)} (k : Nat) (hy : plainFor y = true) (ho : y.cls = own) (hls : ls = ent av ++ List.replicate k none) (hn : ∀ ad, (lg_sl (av.map (vv ad))).length ≤ nL)
    (h : ∀ K, KI K ret → J K rm cc own nL 0 ls [] sg x) : MCi l D ad cA y cc nL ret rm av sg x := by
  subst ho
  intro hI hv hg r hr
  refine va_MetF (cc := cc) (maxL := nL) (ret := ret) hy rfl ?_
  intro p e s m args below meth c s₁ B hml hPc
  obtain ⟨rfl, hK, hN, hF, hP⟩ := hPc
  have hts := atoms_spec (ws := .code y cc nL ret :: TT) B.pre
  have hown : s.vm.findClass y.cls = some m.cls := findClass_of_methodNamed B.named
  have hl := lv_entry (av.map (vv ad)) (n := nL) (hn ad)
  rw [lg_entry_eq]
  generalize (lg_sl (av.map (vv ad)) ++ List.replicate (nL - (lg_sl (av.map (vv ad))).length) Slot.unset).toArray = la at hl ⊢
  refine h (p, l, e, s, m, (av.map (vv ad)).toArray, below, meth, c, D, ad, cA, AG ad, (0, 0), fun r => MQ below (QGi D ad cA r) (av.map (vv ad)).toArray s 0 0 (AG ad)) ⟨B.returns, B.notSynchronized, rfl, rfl, rfl, rfl⟩
    ⟨B.exec, B.bytes, hml, hown, fun w hw => hts w (List.mem_cons_of_mem _ hw), hK, hI, fun k hk => ⟨k, hk, rfl⟩, hN, hF, Nat.zero_le _, Nat.zero_le _⟩ ?_ (fun _ h => by cases h) hg r hr s.heap [] la ⟨hl.1, hl.2.1, ?_⟩ hP va_S.rf
  · intro i v h1
    rw [hls] at h1
    exact hv v (ent_in av i v (ent_pad h1))
  · intro i v h1
    rw [hls] at h1
    have h2 := ent_has ad av 0 i v (ent_pad h1)
    rw [Nat.zero_add] at h2
    exact hl.2.2 _ h2
theorem MCv_ofF {l : Launch} {D : va_G} {ad : Nat → Nat} {cA : Nat → ClassId} {y : MethodName} {cc : ByteArray} {nL : Nat} {ret : Option FieldType} {rm : Room} {own : String} {av : List V} {sg : Mem} {x : Option Res} {ls : List (Option V)} (k : Nat) (hy : plainFor y = true) (ho : y.cls = own) (hls : ls = ent av ++ List.replicate k none) (hn : ∀ ad, (lg_sl (av.map (vv ad))).length ≤ nL)
    (h : ∀ K, KV K ret → J K rm cc own nL 0 ls [] sg x) : MCv l D ad cA y cc nL ret rm av sg x := by
  subst ho
  intro hI hv hg r hr
  refine va_MetF (cc := cc) (maxL := nL) (ret := ret) hy rfl ?_
  intro p e s m args below meth c s₁ B hml hPc
  obtain ⟨rfl, hK, hN, hF, hP⟩ := hPc
  have hts := atoms_spec (ws := .code y cc nL ret :: TT) B.pre
  have hown : s.vm.findClass y.cls = some m.cls := findClass_of_methodNamed B.named
  have hl := lv_entry (av.map (vv ad)) (n := nL) (hn ad)
  rw [lg_entry_eq]
  generalize (lg_sl (av.map (vv ad)) ++ List.replicate (nL - (lg_sl (av.map (vv ad))).length) Slot.unset).toArray = la at hl ⊢
  refine h (p, l, e, s, m, (av.map (vv ad)).toArray, below, meth, c, D, ad, cA, AG ad, (0, 0), fun r => MQ below (QGv D ad cA r) (av.map (vv ad)).toArray s 0 0 (AG ad)) ⟨B.returns, B.notSynchronized, rfl, rfl, rfl, rfl⟩
    ⟨B.exec, B.bytes, hml, hown, fun w hw => hts w (List.mem_cons_of_mem _ hw), hK, hI, fun k hk => ⟨k, hk, rfl⟩, hN, hF, Nat.zero_le _, Nat.zero_le _⟩ ?_ (fun _ h => by cases h) hg r hr s.heap [] la ⟨hl.1, hl.2.1, ?_⟩ hP va_S.rf
  · intro i v h1
    rw [hls] at h1
    exact hv v (ent_in av i v (ent_pad h1))
  · intro i v h1
    rw [hls] at h1
    have h2 := ent_has ad av 0 i v (ent_pad h1)
    rw [Nat.zero_add] at h2
    exact hl.2.2 _ h2
