abbrev rmX4_arrange : Room := { frames := 5, cells := 0, slots := 0, locals := 118 }
theorem dX4_arrange_0 : decode cX4_arrange 0 = .ok (.aload_n 0, 1) := by decide +kernel
theorem dX4_arrange_1 : decode cX4_arrange 1 = .ok (.aload_n 1, 1) := by decide +kernel
theorem dX4_arrange_2 : decode cX4_arrange 2 = .ok (.iload_n 3, 1) := by decide +kernel
theorem dX4_arrange_3 : decode cX4_arrange 3 = .ok (.invokevirtual 73, 3) := by decide +kernel
theorem dX4_arrange_6 : decode cX4_arrange 6 = .ok (.aload_n 0, 1) := by decide +kernel
theorem dX4_arrange_7 : decode cX4_arrange 7 = .ok (.getfield 26, 3) := by decide +kernel
theorem dX4_arrange_10 : decode cX4_arrange 10 = .ok (.iload_n 2, 1) := by decide +kernel
theorem dX4_arrange_11 : decode cX4_arrange 11 = .ok (.iload_n 3, 1) := by decide +kernel
theorem dX4_arrange_12 : decode cX4_arrange 12 = .ok (.invokestatic 76, 3) := by decide +kernel
theorem dX4_arrange_15 : decode cX4_arrange 15 = .ok (.iastore, 1) := by decide +kernel
theorem dX4_arrange_16 : decode cX4_arrange 16 = .ok (.iload_n 3, 1) := by decide +kernel
theorem dX4_arrange_17 : decode cX4_arrange 17 = .ok (.istore 4, 2) := by decide +kernel
theorem dX4_arrange_19 : decode cX4_arrange 19 = .ok (.iconst 0, 1) := by decide +kernel
theorem dX4_arrange_20 : decode cX4_arrange 20 = .ok (.istore 5, 2) := by decide +kernel
theorem dX4_arrange_22 : decode cX4_arrange 22 = .ok (.iload 5, 2) := by decide +kernel
theorem dX4_arrange_24 : decode cX4_arrange 24 = .ok (.aload_n 0, 1) := by decide +kernel
theorem dX4_arrange_25 : decode cX4_arrange 25 = .ok (.getfield 26, 3) := by decide +kernel
theorem dX4_arrange_28 : decode cX4_arrange 28 = .ok (.iload_n 2, 1) := by decide +kernel
theorem dX4_arrange_29 : decode cX4_arrange 29 = .ok (.iaload, 1) := by decide +kernel
theorem dX4_arrange_30 : decode cX4_arrange 30 = .ok (.if_icmp .ge 42, 3) := by decide +kernel
theorem dX4_arrange_33 : decode cX4_arrange 33 = .ok (.aload_n 0, 1) := by decide +kernel
theorem dX4_arrange_34 : decode cX4_arrange 34 = .ok (.aload_n 1, 1) := by decide +kernel
theorem dX4_arrange_35 : decode cX4_arrange 35 = .ok (.iload_n 3, 1) := by decide +kernel
theorem dX4_arrange_36 : decode cX4_arrange 36 = .ok (.iload 4, 2) := by decide +kernel
theorem dX4_arrange_38 : decode cX4_arrange 38 = .ok (.invokevirtual 79, 3) := by decide +kernel
theorem dX4_arrange_41 : decode cX4_arrange 41 = .ok (.istore 6, 2) := by decide +kernel
theorem dX4_arrange_43 : decode cX4_arrange 43 = .ok (.aload_n 0, 1) := by decide +kernel
theorem dX4_arrange_44 : decode cX4_arrange 44 = .ok (.getfield 23, 3) := by decide +kernel
theorem dX4_arrange_47 : decode cX4_arrange 47 = .ok (.iload_n 2, 1) := by decide +kernel
theorem dX4_arrange_48 : decode cX4_arrange 48 = .ok (.bipush 8, 2) := by decide +kernel
theorem dX4_arrange_50 : decode cX4_arrange 50 = .ok (.imul, 1) := by decide +kernel
theorem dX4_arrange_51 : decode cX4_arrange 51 = .ok (.iload 5, 2) := by decide +kernel
theorem dX4_arrange_53 : decode cX4_arrange 53 = .ok (.iadd, 1) := by decide +kernel
theorem dX4_arrange_54 : decode cX4_arrange 54 = .ok (.iload 6, 2) := by decide +kernel
theorem dX4_arrange_56 : decode cX4_arrange 56 = .ok (.iastore, 1) := by decide +kernel
theorem dX4_arrange_57 : decode cX4_arrange 57 = .ok (.iload 4, 2) := by decide +kernel
theorem dX4_arrange_59 : decode cX4_arrange 59 = .ok (.iconst 1, 1) := by decide +kernel
theorem dX4_arrange_60 : decode cX4_arrange 60 = .ok (.iload 6, 2) := by decide +kernel
theorem dX4_arrange_62 : decode cX4_arrange 62 = .ok (.ishl, 1) := by decide +kernel
theorem dX4_arrange_63 : decode cX4_arrange 63 = .ok (.ixor, 1) := by decide +kernel
theorem dX4_arrange_64 : decode cX4_arrange 64 = .ok (.istore 4, 2) := by decide +kernel
theorem dX4_arrange_66 : decode cX4_arrange 66 = .ok (.iinc 5 1, 3) := by decide +kernel
theorem dX4_arrange_69 : decode cX4_arrange 69 = .ok (.goto (-47), 3) := by decide +kernel
theorem dX4_arrange_72 : decode cX4_arrange 72 = .ok (.return_, 1) := by decide +kernel
def LX4_arrange_22 (c2 : Int) (c3 : Int) (k72 : Mem → Option Res) : Nat → Int → Int → Mem → Option Res
  | 0 => fun _ _ _ => none
  | n + 1 => fun x4 x5 s => rd (s 99) c2 2 (fun v6 =>
 (if v6 ≤ x5 then
 k72 s
 else
 bnd (fX4_bestNext c3 x4 s) (fun r7 s8 =>
 ST s8 98 (wr ((wr (c2 * 8)) + x5)) 16 r7 (fun s9 =>
 lt (ixo x4 (ish 1 r7)) (fun v10 =>
 LX4_arrange_22 c2 c3 k72 n v10 (wr (x5 + 1)) s9)))))
def fX4_arrange (a2 : Int) (a3 : Int) (s0 : Mem) : Option Res :=
 bnd (fX4_weighEndings a3 s0) (fun _ s2 =>
 bnd (fJ6_bitCount_0f7a4 a3 s2) (fun r3 s4 =>
 ST s4 99 a2 2 r3 (fun s5 =>
 LX4_arrange_22 a2 a3 (fun s11 =>
 some (0, s11)) FU a3 0 s5)))
set_option maxRecDepth 100000 in
set_option maxHeartbeats 4000000 in
theorem jLX4_arrange_22 {K : KT} (hq : KV K none) (c2 : Int) (c3 : Int) (k72 : Mem → Option Res) (hk72 : ∀ (s : Mem), J K rmX4_arrange cX4_arrange RX4 7 72 [none, none, none, none, none, none, none] [] s (k72 s)) : ∀ (n : Nat) (x4 : Int) (x5 : Int) (s : Mem), J K rmX4_arrange cX4_arrange RX4 7 22 [some (.inr (.inr 94)), some (.inr (.inr 89)), some (.inl c2), some (.inl c3), some (.inl x4), some (.inl x5), none] [] s (LX4_arrange_22 c2 c3 k72 n x4 x5 s) := by
  intro n
  induction n with
  | zero => intros; exact J_none
  | succ n ih =>
    intro x4 x5 s
    show J K _ _ _ _ _ _ _ _ (LX4_arrange_22 c2 c3 k72 (n + 1) x4 x5 s)
    simp only [LX4_arrange_22]
    refine j_iload dX4_arrange_22 rfl ?_
    refine j_aload_n dX4_arrange_24 rfl rfl ?_
    refine j_getR fl_RX4_26 sh_94 rfl dX4_arrange_25 ?_
    refine j_iload_n dX4_arrange_28 rfl rfl ?_
    refine j_iald sh_99 dX4_arrange_29 (fun v6 => ?_)
    refine j_icmp_ge (tgt := 72) dX4_arrange_30 rfl ?_ ?_
    · exact j_msk [false, false, false, false, false, false, false] (hk72 _)
    · refine j_aload_n dX4_arrange_33 rfl rfl ?_
      refine j_aload_n dX4_arrange_34 rfl rfl ?_
      refine j_iload_n dX4_arrange_35 rfl rfl ?_
      refine j_iload dX4_arrange_36 rfl ?_
      refine j_callVi (mX4_bestNext (kl K) (kD K) (kad K) (kcA K) c3 x4 s) cw_RX4_79 sh_94 rfl ⟨rfl, rfl, by decide, by decide⟩ rfl rfl (Nat.le_of_ble_eq_true rfl) dX4_arrange_38 (fun r7 s8 => ?_)
      refine j_istoreE (ls2 := [some (.inr (.inr 94)), some (.inr (.inr 89)), some (.inl c2), some (.inl c3), some (.inl x4), some (.inl x5), some (.inl r7)]) dX4_arrange_41 (by decide) rfl rfl ?_
      refine j_aload_n dX4_arrange_43 rfl rfl ?_
      refine j_getR fl_RX4_23 sh_94 rfl dX4_arrange_44 ?_
      refine j_iload_n dX4_arrange_47 rfl rfl ?_
      refine j_bipush (v := 8) dX4_arrange_48 (by decide +kernel) (inr_d rfl) ?_
      refine j_imul dX4_arrange_50 ?_
      refine j_iload dX4_arrange_51 rfl ?_
      refine j_iadd dX4_arrange_53 ?_
      refine j_iload dX4_arrange_54 rfl ?_
      refine j_iast sh_98 dX4_arrange_56 (fun s9 => ?_)
      refine j_iload dX4_arrange_57 rfl ?_
      refine j_iconst dX4_arrange_59 (inr_d rfl) ?_
      refine j_iload dX4_arrange_60 rfl ?_
      refine j_ishl dX4_arrange_62 ?_
      refine j_ixor dX4_arrange_63 ?_
      refine j_ltv (fun v10 => ?_)
      refine j_istoreE (ls2 := [some (.inr (.inr 94)), some (.inr (.inr 89)), some (.inl c2), some (.inl c3), some (.inl v10), some (.inl x5), some (.inl r7)]) dX4_arrange_64 (by decide) rfl rfl ?_
      refine j_iincE (ls2 := [some (.inr (.inr 94)), some (.inr (.inr 89)), some (.inl c2), some (.inl c3), some (.inl v10), some (.inl (wr (x5 + 1))), some (.inl r7)]) dX4_arrange_66 rfl (by decide) rfl rfl ?_
      refine j_goto (tgt := 22) dX4_arrange_69 rfl ?_
      exact j_msk [true, true, true, true, true, true, false] (ih _ _ _)
set_option maxRecDepth 100000 in
set_option maxHeartbeats 4000000 in
theorem mX4_arrange (l : Launch) (D : va_G) (ad : Nat → Nat) (cA : Nat → ClassId) (a2 : Int) (a3 : Int) (s0 : Mem) : MCv l D ad cA yX4_arrange cX4_arrange 7 none rmX4_arrange [.inr (.inr 94), .inr (.inr 89), .inl a2, .inl a3] s0 (fX4_arrange a2 a3 s0) := by
  refine MCv_ofE (own := RX4) (ls := [some (.inr (.inr 94)), some (.inr (.inr 89)), some (.inl a2), some (.inl a3), none, none, none]) 3 (by decide +kernel) rfl rfl (fun _ => Nat.le_of_ble_eq_true rfl) (fun K hq => ?_)
  unfold fX4_arrange
  refine j_aload_n dX4_arrange_0 rfl rfl ?_
  refine j_aload_n dX4_arrange_1 rfl rfl ?_
  refine j_iload_n dX4_arrange_2 rfl rfl ?_
  refine j_callVv (mX4_weighEndings (kl K) (kD K) (kad K) (kcA K) a3 s0) cw_RX4_73 sh_94 rfl ⟨rfl, rfl, by decide, by decide⟩ rfl rfl (Nat.le_of_ble_eq_true rfl) dX4_arrange_3 (fun _ s2 => ?_)
  refine j_aload_n dX4_arrange_6 rfl rfl ?_
  refine j_getR fl_RX4_26 sh_94 rfl dX4_arrange_7 ?_
  refine j_iload_n dX4_arrange_10 rfl rfl ?_
  refine j_iload_n dX4_arrange_11 rfl rfl ?_
  refine j_callSi (mJ6_bitCount_0f7a4 (kl K) (kD K) (kad K) (kcA K) a3 s2) cw_RX4_76 ⟨rfl, rfl, by decide, by decide⟩ rfl rfl (Nat.le_of_ble_eq_true rfl) dX4_arrange_12 (fun r3 s4 => ?_)
  refine j_iast sh_99 dX4_arrange_15 (fun s5 => ?_)
  refine j_iload_n dX4_arrange_16 rfl rfl ?_
  refine j_istoreE (ls2 := [some (.inr (.inr 94)), some (.inr (.inr 89)), some (.inl a2), some (.inl a3), some (.inl a3), none, none]) dX4_arrange_17 (by decide) rfl rfl ?_
  refine j_iconst dX4_arrange_19 (inr_d rfl) ?_
  refine j_istoreE (ls2 := [some (.inr (.inr 94)), some (.inr (.inr 89)), some (.inl a2), some (.inl a3), some (.inl a3), some (.inl 0), none]) dX4_arrange_20 (by decide) rfl rfl ?_
  refine j_msk [true, true, true, true, true, true, false] (jLX4_arrange_22 hq _ _ _ (fun s11 => ?_) _ _ _ _)
  exact j_vret hq dX4_arrange_72
abbrev rmX4_solve : Room := { frames := 6, cells := 0, slots := 0, locals := 144 }
theorem dX4_solve_0 : decode cX4_solve 0 = .ok (.iconst 1, 1) := by decide +kernel
theorem dX4_solve_1 : decode cX4_solve 1 = .ok (.aload_n 1, 1) := by decide +kernel
theorem dX4_solve_2 : decode cX4_solve 2 = .ok (.getfield 29, 3) := by decide +kernel
theorem dX4_solve_5 : decode cX4_solve 5 = .ok (.ishl, 1) := by decide +kernel
theorem dX4_solve_6 : decode cX4_solve 6 = .ok (.iconst 1, 1) := by decide +kernel
theorem dX4_solve_7 : decode cX4_solve 7 = .ok (.isub, 1) := by decide +kernel
theorem dX4_solve_8 : decode cX4_solve 8 = .ok (.istore_n 2, 1) := by decide +kernel
theorem dX4_solve_9 : decode cX4_solve 9 = .ok (.aload_n 0, 1) := by decide +kernel
theorem dX4_solve_10 : decode cX4_solve 10 = .ok (.aload_n 1, 1) := by decide +kernel
theorem dX4_solve_11 : decode cX4_solve 11 = .ok (.iload_n 2, 1) := by decide +kernel
theorem dX4_solve_12 : decode cX4_solve 12 = .ok (.invokevirtual 33, 3) := by decide +kernel
theorem dX4_solve_15 : decode cX4_solve 15 = .ok (.aload_n 0, 1) := by decide +kernel
theorem dX4_solve_16 : decode cX4_solve 16 = .ok (.iconst 0, 1) := by decide +kernel
theorem dX4_solve_17 : decode cX4_solve 17 = .ok (.putfield 37, 3) := by decide +kernel
theorem dX4_solve_20 : decode cX4_solve 20 = .ok (.aload_n 0, 1) := by decide +kernel
theorem dX4_solve_21 : decode cX4_solve 21 = .ok (.aload_n 0, 1) := by decide +kernel
theorem dX4_solve_22 : decode cX4_solve 22 = .ok (.getfield 17, 3) := by decide +kernel
theorem dX4_solve_25 : decode cX4_solve 25 = .ok (.iload_n 2, 1) := by decide +kernel
theorem dX4_solve_26 : decode cX4_solve 26 = .ok (.iaload, 1) := by decide +kernel
theorem dX4_solve_27 : decode cX4_solve 27 = .ok (.putfield 40, 3) := by decide +kernel
theorem dX4_solve_30 : decode cX4_solve 30 = .ok (.iconst 1, 1) := by decide +kernel
theorem dX4_solve_31 : decode cX4_solve 31 = .ok (.istore_n 3, 1) := by decide +kernel
theorem dX4_solve_32 : decode cX4_solve 32 = .ok (.iload_n 3, 1) := by decide +kernel
theorem dX4_solve_33 : decode cX4_solve 33 = .ok (.bipush 64, 2) := by decide +kernel
theorem dX4_solve_35 : decode cX4_solve 35 = .ok (.if_icmp .ge 55, 3) := by decide +kernel
theorem dX4_solve_38 : decode cX4_solve 38 = .ok (.aload_n 1, 1) := by decide +kernel
theorem dX4_solve_39 : decode cX4_solve 39 = .ok (.iload_n 3, 1) := by decide +kernel
theorem dX4_solve_40 : decode cX4_solve 40 = .ok (.invokevirtual 43, 3) := by decide +kernel
theorem dX4_solve_43 : decode cX4_solve 43 = .ok (.istore 4, 2) := by decide +kernel
theorem dX4_solve_45 : decode cX4_solve 45 = .ok (.aload_n 0, 1) := by decide +kernel
theorem dX4_solve_46 : decode cX4_solve 46 = .ok (.getfield 17, 3) := by decide +kernel
theorem dX4_solve_49 : decode cX4_solve 49 = .ok (.iload_n 2, 1) := by decide +kernel
theorem dX4_solve_50 : decode cX4_solve 50 = .ok (.iload 4, 2) := by decide +kernel
theorem dX4_solve_52 : decode cX4_solve 52 = .ok (.ixor, 1) := by decide +kernel
theorem dX4_solve_53 : decode cX4_solve 53 = .ok (.iaload, 1) := by decide +kernel
theorem dX4_solve_54 : decode cX4_solve 54 = .ok (.aload_n 0, 1) := by decide +kernel
theorem dX4_solve_55 : decode cX4_solve 55 = .ok (.getfield 17, 3) := by decide +kernel
theorem dX4_solve_58 : decode cX4_solve 58 = .ok (.iload 4, 2) := by decide +kernel
theorem dX4_solve_60 : decode cX4_solve 60 = .ok (.iaload, 1) := by decide +kernel
theorem dX4_solve_61 : decode cX4_solve 61 = .ok (.iadd, 1) := by decide +kernel
theorem dX4_solve_62 : decode cX4_solve 62 = .ok (.istore 5, 2) := by decide +kernel
theorem dX4_solve_64 : decode cX4_solve 64 = .ok (.iload 5, 2) := by decide +kernel
theorem dX4_solve_66 : decode cX4_solve 66 = .ok (.aload_n 0, 1) := by decide +kernel
theorem dX4_solve_67 : decode cX4_solve 67 = .ok (.getfield 40, 3) := by decide +kernel
theorem dX4_solve_70 : decode cX4_solve 70 = .ok (.if_icmp .ge 14, 3) := by decide +kernel
theorem dX4_solve_73 : decode cX4_solve 73 = .ok (.aload_n 0, 1) := by decide +kernel
theorem dX4_solve_74 : decode cX4_solve 74 = .ok (.iload 5, 2) := by decide +kernel
theorem dX4_solve_76 : decode cX4_solve 76 = .ok (.putfield 40, 3) := by decide +kernel
theorem dX4_solve_79 : decode cX4_solve 79 = .ok (.aload_n 0, 1) := by decide +kernel
theorem dX4_solve_80 : decode cX4_solve 80 = .ok (.iload_n 3, 1) := by decide +kernel
theorem dX4_solve_81 : decode cX4_solve 81 = .ok (.putfield 37, 3) := by decide +kernel
theorem dX4_solve_84 : decode cX4_solve 84 = .ok (.iinc 3 1, 3) := by decide +kernel
theorem dX4_solve_87 : decode cX4_solve 87 = .ok (.goto (-55), 3) := by decide +kernel
theorem dX4_solve_90 : decode cX4_solve 90 = .ok (.aload_n 1, 1) := by decide +kernel
theorem dX4_solve_91 : decode cX4_solve 91 = .ok (.aload_n 0, 1) := by decide +kernel
theorem dX4_solve_92 : decode cX4_solve 92 = .ok (.getfield 37, 3) := by decide +kernel
theorem dX4_solve_95 : decode cX4_solve 95 = .ok (.invokevirtual 43, 3) := by decide +kernel
theorem dX4_solve_98 : decode cX4_solve 98 = .ok (.istore_n 3, 1) := by decide +kernel
theorem dX4_solve_99 : decode cX4_solve 99 = .ok (.aload_n 0, 1) := by decide +kernel
theorem dX4_solve_100 : decode cX4_solve 100 = .ok (.aload_n 1, 1) := by decide +kernel
theorem dX4_solve_101 : decode cX4_solve 101 = .ok (.iconst 0, 1) := by decide +kernel
theorem dX4_solve_102 : decode cX4_solve 102 = .ok (.iload_n 2, 1) := by decide +kernel
theorem dX4_solve_103 : decode cX4_solve 103 = .ok (.iload_n 3, 1) := by decide +kernel
theorem dX4_solve_104 : decode cX4_solve 104 = .ok (.ixor, 1) := by decide +kernel
theorem dX4_solve_105 : decode cX4_solve 105 = .ok (.invokevirtual 47, 3) := by decide +kernel
theorem dX4_solve_108 : decode cX4_solve 108 = .ok (.aload_n 0, 1) := by decide +kernel
theorem dX4_solve_109 : decode cX4_solve 109 = .ok (.aload_n 1, 1) := by decide +kernel
theorem dX4_solve_110 : decode cX4_solve 110 = .ok (.iconst 1, 1) := by decide +kernel
theorem dX4_solve_111 : decode cX4_solve 111 = .ok (.iload_n 3, 1) := by decide +kernel
theorem dX4_solve_112 : decode cX4_solve 112 = .ok (.invokevirtual 47, 3) := by decide +kernel
theorem dX4_solve_115 : decode cX4_solve 115 = .ok (.return_, 1) := by decide +kernel
def LX4_solve_32 (c2 : Int) (k90 : Mem → Option Res) : Nat → Int → Mem → Option Res
  | 0 => fun _ _ => none
  | n + 1 => fun x3 s => (if 64 ≤ x3 then
 k90 s
 else
 bnd (fX3_setOn x3 s) (fun r7 s8 =>
 rd (s8 96) (ixo c2 r7) 256 (fun v9 =>
 rd (s8 96) r7 256 (fun v10 =>
 lt (wr (v9 + v10)) (fun v11 =>
 (if s8 94 5 ≤ v11 then
 LX4_solve_32 c2 k90 n (wr (x3 + 1)) s8
 else
 lt (up s8 94 5 v11) (fun s12 =>
 lt (up s12 94 6 x3) (fun s13 =>
 LX4_solve_32 c2 k90 n (wr (x3 + 1)) s13))))))))
def fX4_solve (s0 : Mem) : Option Res :=
 lt (wr ((ish 1 (s0 89 4)) - 1)) (fun v1 =>
 bnd (fX4_weighSets v1 s0) (fun _ s3 =>
 lt (up s3 94 6 0) (fun s4 =>
 rd (s4 96) v1 256 (fun v5 =>
 lt (up s4 94 5 v5) (fun s6 =>
 LX4_solve_32 v1 (fun s14 =>
 bnd (fX3_setOn (s14 94 6) s14) (fun r15 s16 =>
 bnd (fX4_arrange 0 (ixo v1 r15) s16) (fun _ s18 =>
 bnd (fX4_arrange 1 r15 s18) (fun _ s20 =>
 some (0, s20))))) FU 1 s6)))))
set_option maxRecDepth 100000 in
set_option maxHeartbeats 4000000 in
theorem jLX4_solve_32 {K : KT} (hq : KV K none) (c2 : Int) (k90 : Mem → Option Res) (hk90 : ∀ (s : Mem), J K rmX4_solve cX4_solve RX4 6 90 [some (.inr (.inr 94)), some (.inr (.inr 89)), some (.inl c2), none, none, none] [] s (k90 s)) : ∀ (n : Nat) (x3 : Int) (s : Mem), J K rmX4_solve cX4_solve RX4 6 32 [some (.inr (.inr 94)), some (.inr (.inr 89)), some (.inl c2), some (.inl x3), none, none] [] s (LX4_solve_32 c2 k90 n x3 s) := by
  intro n
  induction n with
  | zero => intros; exact J_none
  | succ n ih =>
    intro x3 s
    show J K _ _ _ _ _ _ _ _ (LX4_solve_32 c2 k90 (n + 1) x3 s)
    simp only [LX4_solve_32]
    refine j_iload_n dX4_solve_32 rfl rfl ?_
    refine j_bipush (v := 64) dX4_solve_33 (by decide +kernel) (inr_d rfl) ?_
    refine j_icmp_ge (tgt := 90) dX4_solve_35 rfl ?_ ?_
    · exact j_msk [true, true, true, false, false, false] (hk90 _)
    · refine j_aload_n dX4_solve_38 rfl rfl ?_
      refine j_iload_n dX4_solve_39 rfl rfl ?_
      refine j_callVi (mX3_setOn (kl K) (kD K) (kad K) (kcA K) x3 s) cw_RX4_43 sh_89 rfl ⟨rfl, rfl, by decide, by decide⟩ rfl rfl (Nat.le_of_ble_eq_true rfl) dX4_solve_40 (fun r7 s8 => ?_)
      refine j_istoreE (ls2 := [some (.inr (.inr 94)), some (.inr (.inr 89)), some (.inl c2), some (.inl x3), some (.inl r7), none]) dX4_solve_43 (by decide) rfl rfl ?_
      refine j_aload_n dX4_solve_45 rfl rfl ?_
      refine j_getR fl_RX4_17 sh_94 rfl dX4_solve_46 ?_
      refine j_iload_n dX4_solve_49 rfl rfl ?_
      refine j_iload dX4_solve_50 rfl ?_
      refine j_ixor dX4_solve_52 ?_
      refine j_iald sh_96 dX4_solve_53 (fun v9 => ?_)
      refine j_aload_n dX4_solve_54 rfl rfl ?_
      refine j_getR fl_RX4_17 sh_94 rfl dX4_solve_55 ?_
      refine j_iload dX4_solve_58 rfl ?_
      refine j_iald sh_96 dX4_solve_60 (fun v10 => ?_)
      refine j_iadd dX4_solve_61 ?_
      refine j_ltv (fun v11 => ?_)
      refine j_istoreE (ls2 := [some (.inr (.inr 94)), some (.inr (.inr 89)), some (.inl c2), some (.inl x3), some (.inl r7), some (.inl v11)]) dX4_solve_62 (by decide) rfl rfl ?_
      refine j_iload dX4_solve_64 rfl ?_
      refine j_aload_n dX4_solve_66 rfl rfl ?_
      refine j_getI fl_RX4_40 sh_94 rfl dX4_solve_67 ?_
      refine j_icmp_ge (tgt := 84) dX4_solve_70 rfl ?_ ?_
      · refine j_iincE (ls2 := [some (.inr (.inr 94)), some (.inr (.inr 89)), some (.inl c2), some (.inl (wr (x3 + 1))), some (.inl r7), some (.inl v11)]) dX4_solve_84 rfl (by decide) rfl rfl ?_
        refine j_goto (tgt := 32) dX4_solve_87 rfl ?_
        exact j_msk [true, true, true, true, false, false] (ih _ _)
      · refine j_aload_n dX4_solve_73 rfl rfl ?_
        refine j_iload dX4_solve_74 rfl ?_
        refine j_putI fp_RX4_40 sh_94 rfl dX4_solve_76 (fun s12 => ?_)
        refine j_aload_n dX4_solve_79 rfl rfl ?_
        refine j_iload_n dX4_solve_80 rfl rfl ?_
        refine j_putI fp_RX4_37 sh_94 rfl dX4_solve_81 (fun s13 => ?_)
        refine j_iincE (ls2 := [some (.inr (.inr 94)), some (.inr (.inr 89)), some (.inl c2), some (.inl (wr (x3 + 1))), some (.inl r7), some (.inl v11)]) dX4_solve_84 rfl (by decide) rfl rfl ?_
        refine j_goto (tgt := 32) dX4_solve_87 rfl ?_
        exact j_msk [true, true, true, true, false, false] (ih _ _)
set_option maxRecDepth 100000 in
set_option maxHeartbeats 4000000 in
theorem mX4_solve (l : Launch) (D : va_G) (ad : Nat → Nat) (cA : Nat → ClassId) (s0 : Mem) : MCv l D ad cA yX4_solve cX4_solve 6 none rmX4_solve [.inr (.inr 94), .inr (.inr 89)] s0 (fX4_solve s0) := by
  refine MCv_ofE (own := RX4) (ls := [some (.inr (.inr 94)), some (.inr (.inr 89)), none, none, none, none]) 4 (by decide +kernel) rfl rfl (fun _ => Nat.le_of_ble_eq_true rfl) (fun K hq => ?_)
  unfold fX4_solve
  refine j_iconst dX4_solve_0 (inr_d rfl) ?_
  refine j_aload_n dX4_solve_1 rfl rfl ?_
  refine j_getI fl_RX4_29 sh_89 rfl dX4_solve_2 ?_
  refine j_ishl dX4_solve_5 ?_
  refine j_iconst dX4_solve_6 (inr_d rfl) ?_
  refine j_isub dX4_solve_7 ?_
  refine j_ltv (fun v1 => ?_)
  refine j_istore_nE (ls2 := [some (.inr (.inr 94)), some (.inr (.inr 89)), some (.inl v1), none, none, none]) dX4_solve_8 rfl (by decide) rfl rfl ?_
  refine j_aload_n dX4_solve_9 rfl rfl ?_
  refine j_aload_n dX4_solve_10 rfl rfl ?_
  refine j_iload_n dX4_solve_11 rfl rfl ?_
  refine j_callVv (mX4_weighSets (kl K) (kD K) (kad K) (kcA K) v1 s0) cw_RX4_33 sh_94 rfl ⟨rfl, rfl, by decide, by decide⟩ rfl rfl (Nat.le_of_ble_eq_true rfl) dX4_solve_12 (fun _ s3 => ?_)
  refine j_aload_n dX4_solve_15 rfl rfl ?_
  refine j_iconst dX4_solve_16 (inr_d rfl) ?_
  refine j_putI fp_RX4_37 sh_94 rfl dX4_solve_17 (fun s4 => ?_)
  refine j_aload_n dX4_solve_20 rfl rfl ?_
  refine j_aload_n dX4_solve_21 rfl rfl ?_
  refine j_getR fl_RX4_17 sh_94 rfl dX4_solve_22 ?_
  refine j_iload_n dX4_solve_25 rfl rfl ?_
  refine j_iald sh_96 dX4_solve_26 (fun v5 => ?_)
  refine j_putI fp_RX4_40 sh_94 rfl dX4_solve_27 (fun s6 => ?_)
  refine j_iconst dX4_solve_30 (inr_d rfl) ?_
  refine j_istore_nE (ls2 := [some (.inr (.inr 94)), some (.inr (.inr 89)), some (.inl v1), some (.inl 1), none, none]) dX4_solve_31 rfl (by decide) rfl rfl ?_
  refine j_msk [true, true, true, true, false, false] (jLX4_solve_32 hq _ _ (fun s14 => ?_) _ _ _)
  refine j_aload_n dX4_solve_90 rfl rfl ?_
  refine j_aload_n dX4_solve_91 rfl rfl ?_
  refine j_getI fl_RX4_37 sh_94 rfl dX4_solve_92 ?_
  refine j_callVi (mX3_setOn (kl K) (kD K) (kad K) (kcA K) (s14 94 6) s14) cw_RX4_43 sh_89 rfl ⟨rfl, rfl, by decide, by decide⟩ rfl rfl (Nat.le_of_ble_eq_true rfl) dX4_solve_95 (fun r15 s16 => ?_)
  refine j_istore_nE (ls2 := [some (.inr (.inr 94)), some (.inr (.inr 89)), some (.inl v1), some (.inl r15), none, none]) dX4_solve_98 rfl (by decide) rfl rfl ?_
  refine j_aload_n dX4_solve_99 rfl rfl ?_
  refine j_aload_n dX4_solve_100 rfl rfl ?_
  refine j_iconst dX4_solve_101 (inr_d rfl) ?_
  refine j_iload_n dX4_solve_102 rfl rfl ?_
  refine j_iload_n dX4_solve_103 rfl rfl ?_
  refine j_ixor dX4_solve_104 ?_
  refine j_callVv (mX4_arrange (kl K) (kD K) (kad K) (kcA K) 0 (ixo v1 r15) s16) cw_RX4_47 sh_94 rfl ⟨rfl, rfl, by decide, by decide⟩ rfl rfl (Nat.le_of_ble_eq_true rfl) dX4_solve_105 (fun _ s18 => ?_)
  refine j_aload_n dX4_solve_108 rfl rfl ?_
  refine j_aload_n dX4_solve_109 rfl rfl ?_
  refine j_iconst dX4_solve_110 (inr_d rfl) ?_
  refine j_iload_n dX4_solve_111 rfl rfl ?_
  refine j_callVv (mX4_arrange (kl K) (kD K) (kad K) (kcA K) 1 r15 s18) cw_RX4_47 sh_94 rfl ⟨rfl, rfl, by decide, by decide⟩ rfl rfl (Nat.le_of_ble_eq_true rfl) dX4_solve_112 (fun _ s20 => ?_)
  exact j_vret hq dX4_solve_115
abbrev rmX4_orderAt : Room := { frames := 0, cells := 0, slots := 0, locals := 0 }
theorem dX4_orderAt_0 : decode cX4_orderAt 0 = .ok (.iload_n 2, 1) := by decide +kernel
theorem dX4_orderAt_1 : decode cX4_orderAt 1 = .ok (.aload_n 0, 1) := by decide +kernel
theorem dX4_orderAt_2 : decode cX4_orderAt 2 = .ok (.getfield 26, 3) := by decide +kernel
theorem dX4_orderAt_5 : decode cX4_orderAt 5 = .ok (.iload_n 1, 1) := by decide +kernel
theorem dX4_orderAt_6 : decode cX4_orderAt 6 = .ok (.iaload, 1) := by decide +kernel
theorem dX4_orderAt_7 : decode cX4_orderAt 7 = .ok (.if_icmp .ge 17, 3) := by decide +kernel
theorem dX4_orderAt_10 : decode cX4_orderAt 10 = .ok (.aload_n 0, 1) := by decide +kernel
theorem dX4_orderAt_11 : decode cX4_orderAt 11 = .ok (.getfield 23, 3) := by decide +kernel
theorem dX4_orderAt_14 : decode cX4_orderAt 14 = .ok (.iload_n 1, 1) := by decide +kernel
theorem dX4_orderAt_15 : decode cX4_orderAt 15 = .ok (.bipush 8, 2) := by decide +kernel
theorem dX4_orderAt_17 : decode cX4_orderAt 17 = .ok (.imul, 1) := by decide +kernel
theorem dX4_orderAt_18 : decode cX4_orderAt 18 = .ok (.iload_n 2, 1) := by decide +kernel
theorem dX4_orderAt_19 : decode cX4_orderAt 19 = .ok (.iadd, 1) := by decide +kernel
theorem dX4_orderAt_20 : decode cX4_orderAt 20 = .ok (.iaload, 1) := by decide +kernel
theorem dX4_orderAt_21 : decode cX4_orderAt 21 = .ok (.goto 5, 3) := by decide +kernel
theorem dX4_orderAt_24 : decode cX4_orderAt 24 = .ok (.bipush (-4), 2) := by decide +kernel
theorem dX4_orderAt_26 : decode cX4_orderAt 26 = .ok (.ireturn, 1) := by decide +kernel
def fX4_orderAt (a1 : Int) (a2 : Int) (s0 : Mem) : Option Res :=
 rd (s0 99) a1 2 (fun v1 =>
 (if v1 ≤ a2 then
 some ((-4), s0)
 else
 rd (s0 98) (wr ((wr (a1 * 8)) + a2)) 16 (fun v2 =>
 some (v2, s0))))
set_option maxRecDepth 100000 in
set_option maxHeartbeats 4000000 in
theorem mX4_orderAt (l : Launch) (D : va_G) (ad : Nat → Nat) (cA : Nat → ClassId) (a1 : Int) (a2 : Int) (s0 : Mem) : MCi l D ad cA yX4_orderAt cX4_orderAt 3 (some .int) rmX4_orderAt [.inr (.inr 94), .inl a1, .inl a2] s0 (fX4_orderAt a1 a2 s0) := by
  refine MCi_ofE (own := RX4) (ls := [some (.inr (.inr 94)), some (.inl a1), some (.inl a2)]) 0 (by decide +kernel) rfl rfl (fun _ => Nat.le_of_ble_eq_true rfl) (fun K hq => ?_)
  unfold fX4_orderAt
  refine j_iload_n dX4_orderAt_0 rfl rfl ?_
  refine j_aload_n dX4_orderAt_1 rfl rfl ?_
  refine j_getR fl_RX4_26 sh_94 rfl dX4_orderAt_2 ?_
  refine j_iload_n dX4_orderAt_5 rfl rfl ?_
  refine j_iald sh_99 dX4_orderAt_6 (fun v1 => ?_)
  refine j_icmp_ge (tgt := 24) dX4_orderAt_7 rfl ?_ ?_
  · refine j_bipush (v := (-4)) dX4_orderAt_24 (by decide +kernel) (inr_d rfl) ?_
    exact j_iret hq dX4_orderAt_26
  · refine j_aload_n dX4_orderAt_10 rfl rfl ?_
    refine j_getR fl_RX4_23 sh_94 rfl dX4_orderAt_11 ?_
    refine j_iload_n dX4_orderAt_14 rfl rfl ?_
    refine j_bipush (v := 8) dX4_orderAt_15 (by decide +kernel) (inr_d rfl) ?_
    refine j_imul dX4_orderAt_17 ?_
    refine j_iload_n dX4_orderAt_18 rfl rfl ?_
    refine j_iadd dX4_orderAt_19 ?_
    refine j_iald sh_98 dX4_orderAt_20 (fun v2 => ?_)
    refine j_goto (tgt := 26) dX4_orderAt_21 rfl ?_
    exact j_iret hq dX4_orderAt_26
abbrev rmX5_tell : Room := { frames := 0, cells := 0, slots := 0, locals := 0 }
theorem dX5_tell_0 : decode cX5_tell 0 = .ok (.aload_n 0, 1) := by decide +kernel
theorem dX5_tell_1 : decode cX5_tell 1 = .ok (.getfield 9, 3) := by decide +kernel
theorem dX5_tell_4 : decode cX5_tell 4 = .ok (.iload_n 1, 1) := by decide +kernel
theorem dX5_tell_5 : decode cX5_tell 5 = .ok (.iload_n 2, 1) := by decide +kernel
theorem dX5_tell_6 : decode cX5_tell 6 = .ok (.iastore, 1) := by decide +kernel
theorem dX5_tell_7 : decode cX5_tell 7 = .ok (.aload_n 0, 1) := by decide +kernel
theorem dX5_tell_8 : decode cX5_tell 8 = .ok (.getfield 15, 3) := by decide +kernel
theorem dX5_tell_11 : decode cX5_tell 11 = .ok (.iload_n 1, 1) := by decide +kernel
theorem dX5_tell_12 : decode cX5_tell 12 = .ok (.iload_n 3, 1) := by decide +kernel
theorem dX5_tell_13 : decode cX5_tell 13 = .ok (.iastore, 1) := by decide +kernel
theorem dX5_tell_14 : decode cX5_tell 14 = .ok (.aload_n 0, 1) := by decide +kernel
theorem dX5_tell_15 : decode cX5_tell 15 = .ok (.getfield 18, 3) := by decide +kernel
theorem dX5_tell_18 : decode cX5_tell 18 = .ok (.iload_n 1, 1) := by decide +kernel
theorem dX5_tell_19 : decode cX5_tell 19 = .ok (.iconst 0, 1) := by decide +kernel
theorem dX5_tell_20 : decode cX5_tell 20 = .ok (.bastore, 1) := by decide +kernel
theorem dX5_tell_21 : decode cX5_tell 21 = .ok (.return_, 1) := by decide +kernel
def fX5_tell (t0 : Nat) (a1 : Int) (a2 : Int) (a3 : Int) (s0 : Mem) : Option Res :=
 ST s0 (t0 + 1) a1 8 a2 (fun s1 =>
 ST s1 (t0 + 2) a1 8 a3 (fun s2 =>
 zp 0 (ST s2 (t0 + 3) a1 8 0 (fun s3 =>
 some (0, s3)))))
set_option maxRecDepth 100000 in
set_option maxHeartbeats 4000000 in
theorem mX5_tell (l : Launch) (D : va_G) (ad : Nat → Nat) (cA : Nat → ClassId) (t0 : Nat) (h0 : isRe t0) (a1 : Int) (a2 : Int) (a3 : Int) (s0 : Mem) : MCv l D ad cA yX5_tell cX5_tell 4 none rmX5_tell [.inr (.inr t0), .inl a1, .inl a2, .inl a3] s0 (fX5_tell t0 a1 a2 a3 s0) := by
  refine MCv_ofE (own := RX5) (ls := [some (.inr (.inr t0)), some (.inl a1), some (.inl a2), some (.inl a3)]) 0 (by decide +kernel) rfl rfl (fun _ => Nat.le_of_ble_eq_true rfl) (fun K hq => ?_)
  unfold fX5_tell
  refine j_aload_n dX5_tell_0 rfl rfl ?_
  refine j_getR fl_RX5_9 (re_o h0) rfl dX5_tell_1 ?_
  refine j_iload_n dX5_tell_4 rfl rfl ?_
  refine j_iload_n dX5_tell_5 rfl rfl ?_
  refine j_iast (re_0 h0) dX5_tell_6 (fun s1 => ?_)
  refine j_aload_n dX5_tell_7 rfl rfl ?_
  refine j_getR fl_RX5_15 (re_o h0) rfl dX5_tell_8 ?_
  refine j_iload_n dX5_tell_11 rfl rfl ?_
  refine j_iload_n dX5_tell_12 rfl rfl ?_
  refine j_iast (re_1 h0) dX5_tell_13 (fun s2 => ?_)
  refine j_aload_n dX5_tell_14 rfl rfl ?_
  refine j_getR fl_RX5_18 (re_o h0) rfl dX5_tell_15 ?_
  refine j_iload_n dX5_tell_18 rfl rfl ?_
  refine j_iconst dX5_tell_19 (inr_d rfl) ?_
  refine j_zast (re_2 h0) dX5_tell_20 (fun s3 => ?_)
  exact j_vret hq dX5_tell_21
abbrev rmX5_isTold : Room := { frames := 0, cells := 0, slots := 0, locals := 0 }
theorem dX5_isTold_0 : decode cX5_isTold 0 = .ok (.aload_n 0, 1) := by decide +kernel
theorem dX5_isTold_1 : decode cX5_isTold 1 = .ok (.getfield 15, 3) := by decide +kernel
theorem dX5_isTold_4 : decode cX5_isTold 4 = .ok (.iload_n 1, 1) := by decide +kernel
theorem dX5_isTold_5 : decode cX5_isTold 5 = .ok (.iaload, 1) := by decide +kernel
theorem dX5_isTold_6 : decode cX5_isTold 6 = .ok (.ifCond .le 7, 3) := by decide +kernel
theorem dX5_isTold_9 : decode cX5_isTold 9 = .ok (.iconst 1, 1) := by decide +kernel
theorem dX5_isTold_10 : decode cX5_isTold 10 = .ok (.goto 4, 3) := by decide +kernel
theorem dX5_isTold_13 : decode cX5_isTold 13 = .ok (.iconst 0, 1) := by decide +kernel
theorem dX5_isTold_14 : decode cX5_isTold 14 = .ok (.ireturn, 1) := by decide +kernel
def fX5_isTold (t0 : Nat) (a1 : Int) (s0 : Mem) : Option Res :=
 rd (s0 (t0 + 2)) a1 8 (fun v1 =>
 (if v1 ≤ 0 then
 zr 0 s0
 else
 zr 1 s0))
set_option maxRecDepth 100000 in
set_option maxHeartbeats 4000000 in
theorem mX5_isTold (l : Launch) (D : va_G) (ad : Nat → Nat) (cA : Nat → ClassId) (t0 : Nat) (h0 : isRe t0) (a1 : Int) (s0 : Mem) : MCi l D ad cA yX5_isTold cX5_isTold 2 (some .boolean) rmX5_isTold [.inr (.inr t0), .inl a1] s0 (fX5_isTold t0 a1 s0) := by
  refine MCi_ofE (own := RX5) (ls := [some (.inr (.inr t0)), some (.inl a1)]) 0 (by decide +kernel) rfl rfl (fun _ => Nat.le_of_ble_eq_true rfl) (fun K hq => ?_)
  unfold fX5_isTold
  refine j_aload_n dX5_isTold_0 rfl rfl ?_
  refine j_getR fl_RX5_15 (re_o h0) rfl dX5_isTold_1 ?_
  refine j_iload_n dX5_isTold_4 rfl rfl ?_
  refine j_iald (re_1 h0) dX5_isTold_5 (fun v1 => ?_)
  refine j_if_le (tgt := 13) dX5_isTold_6 rfl ?_ ?_
  · refine j_iconst dX5_isTold_13 (inr_d rfl) ?_
    exact j_zret hq dX5_isTold_14
  · refine j_iconst dX5_isTold_9 (inr_d rfl) ?_
    refine j_goto (tgt := 14) dX5_isTold_10 rfl ?_
    exact j_zret hq dX5_isTold_14
abbrev rmX5_countTold : Room := { frames := 1, cells := 0, slots := 0, locals := 21 }
theorem dX5_countTold_0 : decode cX5_countTold 0 = .ok (.iconst 0, 1) := by decide +kernel
theorem dX5_countTold_1 : decode cX5_countTold 1 = .ok (.istore_n 1, 1) := by decide +kernel
theorem dX5_countTold_2 : decode cX5_countTold 2 = .ok (.iconst 0, 1) := by decide +kernel
theorem dX5_countTold_3 : decode cX5_countTold 3 = .ok (.istore_n 2, 1) := by decide +kernel
theorem dX5_countTold_4 : decode cX5_countTold 4 = .ok (.iload_n 2, 1) := by decide +kernel
theorem dX5_countTold_5 : decode cX5_countTold 5 = .ok (.bipush 8, 2) := by decide +kernel
theorem dX5_countTold_7 : decode cX5_countTold 7 = .ok (.if_icmp .ge 20, 3) := by decide +kernel
theorem dX5_countTold_10 : decode cX5_countTold 10 = .ok (.aload_n 0, 1) := by decide +kernel
theorem dX5_countTold_11 : decode cX5_countTold 11 = .ok (.iload_n 2, 1) := by decide +kernel
theorem dX5_countTold_12 : decode cX5_countTold 12 = .ok (.invokevirtual 26, 3) := by decide +kernel
theorem dX5_countTold_15 : decode cX5_countTold 15 = .ok (.ifCond .eq 6, 3) := by decide +kernel
theorem dX5_countTold_18 : decode cX5_countTold 18 = .ok (.iinc 1 1, 3) := by decide +kernel
theorem dX5_countTold_21 : decode cX5_countTold 21 = .ok (.iinc 2 1, 3) := by decide +kernel
theorem dX5_countTold_24 : decode cX5_countTold 24 = .ok (.goto (-20), 3) := by decide +kernel
theorem dX5_countTold_27 : decode cX5_countTold 27 = .ok (.iload_n 1, 1) := by decide +kernel
theorem dX5_countTold_28 : decode cX5_countTold 28 = .ok (.ireturn, 1) := by decide +kernel
def LX5_countTold_4 (t0 : Nat) (k27 : Int → Mem → Option Res) : Nat → Int → Int → Mem → Option Res
  | 0 => fun _ _ _ => none
  | n + 1 => fun x1 x2 s => (if 8 ≤ x2 then
 k27 x1 s
 else
 bnd (fX5_isTold t0 x2 s) (fun r1 s2 =>
 (if r1 = 0 then
 LX5_countTold_4 t0 k27 n x1 (wr (x2 + 1)) s2
 else
 LX5_countTold_4 t0 k27 n (wr (x1 + 1)) (wr (x2 + 1)) s2)))
def fX5_countTold (t0 : Nat) (s0 : Mem) : Option Res :=
 LX5_countTold_4 t0 (fun y4 s3 =>
 some (y4, s3)) FU 0 0 s0
set_option maxRecDepth 100000 in
set_option maxHeartbeats 4000000 in
theorem jLX5_countTold_4 {K : KT} (hq : KI K (some .int)) (t0 : Nat) (h0 : isRe t0) (k27 : Int → Mem → Option Res) (hk27 : ∀ (y1 : Int) (s : Mem), J K rmX5_countTold cX5_countTold RX5 3 27 [none, some (.inl y1), none] [] s (k27 y1 s)) : ∀ (n : Nat) (x1 : Int) (x2 : Int) (s : Mem), J K rmX5_countTold cX5_countTold RX5 3 4 [some (.inr (.inr t0)), some (.inl x1), some (.inl x2)] [] s (LX5_countTold_4 t0 k27 n x1 x2 s) := by
  intro n
  induction n with
  | zero => intros; exact J_none
  | succ n ih =>
    intro x1 x2 s
    show J K _ _ _ _ _ _ _ _ (LX5_countTold_4 t0 k27 (n + 1) x1 x2 s)
    simp only [LX5_countTold_4]
    refine j_iload_n dX5_countTold_4 rfl rfl ?_
    refine j_bipush (v := 8) dX5_countTold_5 (by decide +kernel) (inr_d rfl) ?_
    refine j_icmp_ge (tgt := 27) dX5_countTold_7 rfl ?_ ?_
    · exact j_msk [false, true, false] (hk27 _ _)
    · refine j_aload_n dX5_countTold_10 rfl rfl ?_
      refine j_iload_n dX5_countTold_11 rfl rfl ?_
      refine j_callVi (mX5_isTold (kl K) (kD K) (kad K) (kcA K) t0 h0 x2 s) cw_RX5_26 (re_o h0) rfl ⟨rfl, rfl, by decide, by decide⟩ rfl rfl (Nat.le_of_ble_eq_true rfl) dX5_countTold_12 (fun r1 s2 => ?_)
      refine j_if_eq (tgt := 21) dX5_countTold_15 rfl ?_ ?_
      · refine j_iincE (ls2 := [some (.inr (.inr t0)), some (.inl x1), some (.inl (wr (x2 + 1)))]) dX5_countTold_21 rfl (by decide) rfl rfl ?_
        refine j_goto (tgt := 4) dX5_countTold_24 rfl ?_
        exact j_msk [true, true, true] (ih _ _ _)
      · refine j_iincE (ls2 := [some (.inr (.inr t0)), some (.inl (wr (x1 + 1))), some (.inl x2)]) dX5_countTold_18 rfl (by decide) rfl rfl ?_
        refine j_iincE (ls2 := [some (.inr (.inr t0)), some (.inl (wr (x1 + 1))), some (.inl (wr (x2 + 1)))]) dX5_countTold_21 rfl (by decide) rfl rfl ?_
        refine j_goto (tgt := 4) dX5_countTold_24 rfl ?_
        exact j_msk [true, true, true] (ih _ _ _)
set_option maxRecDepth 100000 in
set_option maxHeartbeats 4000000 in
theorem mX5_countTold (l : Launch) (D : va_G) (ad : Nat → Nat) (cA : Nat → ClassId) (t0 : Nat) (h0 : isRe t0) (s0 : Mem) : MCi l D ad cA yX5_countTold cX5_countTold 3 (some .int) rmX5_countTold [.inr (.inr t0)] s0 (fX5_countTold t0 s0) := by
  refine MCi_ofE (own := RX5) (ls := [some (.inr (.inr t0)), none, none]) 2 (by decide +kernel) rfl rfl (fun _ => Nat.le_of_ble_eq_true rfl) (fun K hq => ?_)
  unfold fX5_countTold
  refine j_iconst dX5_countTold_0 (inr_d rfl) ?_
  refine j_istore_nE (ls2 := [some (.inr (.inr t0)), some (.inl 0), none]) dX5_countTold_1 rfl (by decide) rfl rfl ?_
  refine j_iconst dX5_countTold_2 (inr_d rfl) ?_
  refine j_istore_nE (ls2 := [some (.inr (.inr t0)), some (.inl 0), some (.inl 0)]) dX5_countTold_3 rfl (by decide) rfl rfl ?_
  refine j_msk [true, true, true] (jLX5_countTold_4 hq t0 h0 _ (fun y4 s3 => ?_) _ _ _ _)
  refine j_iload_n dX5_countTold_27 rfl rfl ?_
  exact j_iret hq dX5_countTold_28
abbrev rmX6_empty : Room := { frames := 0, cells := 0, slots := 0, locals := 0 }
theorem dX6_empty_0 : decode cX6_empty 0 = .ok (.aload_n 0, 1) := by decide +kernel
theorem dX6_empty_1 : decode cX6_empty 1 = .ok (.iconst 0, 1) := by decide +kernel
theorem dX6_empty_2 : decode cX6_empty 2 = .ok (.putfield 36, 3) := by decide +kernel
theorem dX6_empty_5 : decode cX6_empty 5 = .ok (.aload_n 0, 1) := by decide +kernel
theorem dX6_empty_6 : decode cX6_empty 6 = .ok (.iconst 0, 1) := by decide +kernel
theorem dX6_empty_7 : decode cX6_empty 7 = .ok (.putfield 40, 3) := by decide +kernel
theorem dX6_empty_10 : decode cX6_empty 10 = .ok (.return_, 1) := by decide +kernel
def fX6_empty (t0 : Nat) (s0 : Mem) : Option Res :=
 lt (up s0 t0 0 0) (fun s1 =>
 lt (up s1 t0 1 0) (fun s2 =>
 some (0, s2)))
set_option maxRecDepth 100000 in
set_option maxHeartbeats 4000000 in
theorem mX6_empty (l : Launch) (D : va_G) (ad : Nat → Nat) (cA : Nat → ClassId) (t0 : Nat) (h0 : isSc t0) (s0 : Mem) : MCv l D ad cA yX6_empty cX6_empty 1 none rmX6_empty [.inr (.inr t0)] s0 (fX6_empty t0 s0) := by
  refine MCv_ofE (own := RX6) (ls := [some (.inr (.inr t0))]) 0 (by decide +kernel) rfl rfl (fun _ => Nat.le_of_ble_eq_true rfl) (fun K hq => ?_)
  unfold fX6_empty
  refine j_aload_n dX6_empty_0 rfl rfl ?_
  refine j_iconst dX6_empty_1 (inr_d rfl) ?_
  refine j_putI fp_RX6_36 (sc_o h0) rfl dX6_empty_2 (fun s1 => ?_)
  refine j_aload_n dX6_empty_5 rfl rfl ?_
  refine j_iconst dX6_empty_6 (inr_d rfl) ?_
  refine j_putI fp_RX6_40 (sc_o h0) rfl dX6_empty_7 (fun s2 => ?_)
  exact j_vret hq dX6_empty_10
abbrev rmX6_putLights : Room := { frames := 0, cells := 0, slots := 0, locals := 0 }
theorem dX6_putLights_0 : decode cX6_putLights 0 = .ok (.aload_n 0, 1) := by decide +kernel
theorem dX6_putLights_1 : decode cX6_putLights 1 = .ok (.iload_n 1, 1) := by decide +kernel
theorem dX6_putLights_2 : decode cX6_putLights 2 = .ok (.iconst 3, 1) := by decide +kernel
theorem dX6_putLights_3 : decode cX6_putLights 3 = .ok (.imul, 1) := by decide +kernel
theorem dX6_putLights_4 : decode cX6_putLights 4 = .ok (.iload_n 2, 1) := by decide +kernel
theorem dX6_putLights_5 : decode cX6_putLights 5 = .ok (.iastore, 1) := by decide +kernel
theorem dX6_putLights_6 : decode cX6_putLights 6 = .ok (.aload_n 0, 1) := by decide +kernel
theorem dX6_putLights_7 : decode cX6_putLights 7 = .ok (.iload_n 1, 1) := by decide +kernel
theorem dX6_putLights_8 : decode cX6_putLights 8 = .ok (.iconst 3, 1) := by decide +kernel
theorem dX6_putLights_9 : decode cX6_putLights 9 = .ok (.imul, 1) := by decide +kernel
theorem dX6_putLights_10 : decode cX6_putLights 10 = .ok (.iconst 1, 1) := by decide +kernel
theorem dX6_putLights_11 : decode cX6_putLights 11 = .ok (.iadd, 1) := by decide +kernel
theorem dX6_putLights_12 : decode cX6_putLights 12 = .ok (.iload_n 3, 1) := by decide +kernel
theorem dX6_putLights_13 : decode cX6_putLights 13 = .ok (.iastore, 1) := by decide +kernel
theorem dX6_putLights_14 : decode cX6_putLights 14 = .ok (.aload_n 0, 1) := by decide +kernel
theorem dX6_putLights_15 : decode cX6_putLights 15 = .ok (.iload_n 1, 1) := by decide +kernel
theorem dX6_putLights_16 : decode cX6_putLights 16 = .ok (.iconst 3, 1) := by decide +kernel
theorem dX6_putLights_17 : decode cX6_putLights 17 = .ok (.imul, 1) := by decide +kernel
theorem dX6_putLights_18 : decode cX6_putLights 18 = .ok (.iconst 2, 1) := by decide +kernel
theorem dX6_putLights_19 : decode cX6_putLights 19 = .ok (.iadd, 1) := by decide +kernel
theorem dX6_putLights_20 : decode cX6_putLights 20 = .ok (.iload 4, 2) := by decide +kernel
theorem dX6_putLights_22 : decode cX6_putLights 22 = .ok (.iastore, 1) := by decide +kernel
theorem dX6_putLights_23 : decode cX6_putLights 23 = .ok (.return_, 1) := by decide +kernel
def fX6_putLights (q0 z0 : Nat) (a1 : Int) (a2 : Int) (a3 : Int) (a4 : Int) (s0 : Mem) : Option Res :=
 ST s0 q0 (wr (a1 * 3)) z0 a2 (fun s1 =>
 ST s1 q0 (wr ((wr (a1 * 3)) + 1)) z0 a3 (fun s2 =>
 ST s2 q0 (wr ((wr (a1 * 3)) + 2)) z0 a4 (fun s3 =>
 some (0, s3))))
set_option maxRecDepth 100000 in
set_option maxHeartbeats 4000000 in
theorem mX6_putLights (l : Launch) (D : va_G) (ad : Nat → Nat) (cA : Nat → ClassId) (q0 z0 : Nat) (hq0 : SH q0 = some (.inl (0, z0))) (hn0 : z0 < 2147483648) (a1 : Int) (a2 : Int) (a3 : Int) (a4 : Int) (s0 : Mem) : MCv l D ad cA yX6_putLights cX6_putLights 5 none rmX6_putLights [.inr (.inr q0), .inl a1, .inl a2, .inl a3, .inl a4] s0 (fX6_putLights q0 z0 a1 a2 a3 a4 s0) := by
  refine MCv_ofE (own := RX6) (ls := [some (.inr (.inr q0)), some (.inl a1), some (.inl a2), some (.inl a3), some (.inl a4)]) 0 (by decide +kernel) rfl rfl (fun _ => Nat.le_of_ble_eq_true rfl) (fun K hq => ?_)
  unfold fX6_putLights
  refine j_aload_n dX6_putLights_0 rfl rfl ?_
  refine j_iload_n dX6_putLights_1 rfl rfl ?_
  refine j_iconst dX6_putLights_2 (inr_d rfl) ?_
  refine j_imul dX6_putLights_3 ?_
  refine j_iload_n dX6_putLights_4 rfl rfl ?_
  refine j_iast hq0 dX6_putLights_5 (fun s1 => ?_)
  refine j_aload_n dX6_putLights_6 rfl rfl ?_
  refine j_iload_n dX6_putLights_7 rfl rfl ?_
  refine j_iconst dX6_putLights_8 (inr_d rfl) ?_
  refine j_imul dX6_putLights_9 ?_
  refine j_iconst dX6_putLights_10 (inr_d rfl) ?_
  refine j_iadd dX6_putLights_11 ?_
  refine j_iload_n dX6_putLights_12 rfl rfl ?_
  refine j_iast hq0 dX6_putLights_13 (fun s2 => ?_)
  refine j_aload_n dX6_putLights_14 rfl rfl ?_
  refine j_iload_n dX6_putLights_15 rfl rfl ?_
  refine j_iconst dX6_putLights_16 (inr_d rfl) ?_
  refine j_imul dX6_putLights_17 ?_
  refine j_iconst dX6_putLights_18 (inr_d rfl) ?_
  refine j_iadd dX6_putLights_19 ?_
  refine j_iload dX6_putLights_20 rfl ?_
  refine j_iast hq0 dX6_putLights_22 (fun s3 => ?_)
  exact j_vret hq dX6_putLights_23
abbrev rmX6_addShot : Room := { frames := 1, cells := 0, slots := 0, locals := 24 }
theorem dX6_addShot_0 : decode cX6_addShot 0 = .ok (.aload_n 0, 1) := by decide +kernel
theorem dX6_addShot_1 : decode cX6_addShot 1 = .ok (.getfield 9, 3) := by decide +kernel
theorem dX6_addShot_4 : decode cX6_addShot 4 = .ok (.aload_n 0, 1) := by decide +kernel
theorem dX6_addShot_5 : decode cX6_addShot 5 = .ok (.getfield 36, 3) := by decide +kernel
theorem dX6_addShot_8 : decode cX6_addShot 8 = .ok (.iconst 1, 1) := by decide +kernel
theorem dX6_addShot_9 : decode cX6_addShot 9 = .ok (.iadd, 1) := by decide +kernel
theorem dX6_addShot_10 : decode cX6_addShot 10 = .ok (.aload_n 0, 1) := by decide +kernel
theorem dX6_addShot_11 : decode cX6_addShot 11 = .ok (.getfield 9, 3) := by decide +kernel
theorem dX6_addShot_14 : decode cX6_addShot 14 = .ok (.aload_n 0, 1) := by decide +kernel
theorem dX6_addShot_15 : decode cX6_addShot 15 = .ok (.getfield 36, 3) := by decide +kernel
theorem dX6_addShot_18 : decode cX6_addShot 18 = .ok (.iaload, 1) := by decide +kernel
theorem dX6_addShot_19 : decode cX6_addShot 19 = .ok (.iload_n 1, 1) := by decide +kernel
theorem dX6_addShot_20 : decode cX6_addShot 20 = .ok (.iadd, 1) := by decide +kernel
theorem dX6_addShot_21 : decode cX6_addShot 21 = .ok (.iastore, 1) := by decide +kernel
theorem dX6_addShot_22 : decode cX6_addShot 22 = .ok (.aload_n 0, 1) := by decide +kernel
theorem dX6_addShot_23 : decode cX6_addShot 23 = .ok (.getfield 15, 3) := by decide +kernel
theorem dX6_addShot_26 : decode cX6_addShot 26 = .ok (.aload_n 0, 1) := by decide +kernel
theorem dX6_addShot_27 : decode cX6_addShot 27 = .ok (.getfield 36, 3) := by decide +kernel
theorem dX6_addShot_30 : decode cX6_addShot 30 = .ok (.iload_n 2, 1) := by decide +kernel
theorem dX6_addShot_31 : decode cX6_addShot 31 = .ok (.iload_n 3, 1) := by decide +kernel
theorem dX6_addShot_32 : decode cX6_addShot 32 = .ok (.iload 4, 2) := by decide +kernel
theorem dX6_addShot_34 : decode cX6_addShot 34 = .ok (.invokestatic 43, 3) := by decide +kernel
theorem dX6_addShot_37 : decode cX6_addShot 37 = .ok (.aload_n 0, 1) := by decide +kernel
theorem dX6_addShot_38 : decode cX6_addShot 38 = .ok (.getfield 18, 3) := by decide +kernel
theorem dX6_addShot_41 : decode cX6_addShot 41 = .ok (.aload_n 0, 1) := by decide +kernel
theorem dX6_addShot_42 : decode cX6_addShot 42 = .ok (.getfield 36, 3) := by decide +kernel
theorem dX6_addShot_45 : decode cX6_addShot 45 = .ok (.iconst 0, 1) := by decide +kernel
theorem dX6_addShot_46 : decode cX6_addShot 46 = .ok (.iastore, 1) := by decide +kernel
theorem dX6_addShot_47 : decode cX6_addShot 47 = .ok (.aload_n 0, 1) := by decide +kernel
theorem dX6_addShot_48 : decode cX6_addShot 48 = .ok (.getfield 24, 3) := by decide +kernel
theorem dX6_addShot_51 : decode cX6_addShot 51 = .ok (.aload_n 0, 1) := by decide +kernel
theorem dX6_addShot_52 : decode cX6_addShot 52 = .ok (.getfield 36, 3) := by decide +kernel
theorem dX6_addShot_55 : decode cX6_addShot 55 = .ok (.iconst 0, 1) := by decide +kernel
theorem dX6_addShot_56 : decode cX6_addShot 56 = .ok (.iastore, 1) := by decide +kernel
theorem dX6_addShot_57 : decode cX6_addShot 57 = .ok (.aload_n 0, 1) := by decide +kernel
theorem dX6_addShot_58 : decode cX6_addShot 58 = .ok (.dup, 1) := by decide +kernel
theorem dX6_addShot_59 : decode cX6_addShot 59 = .ok (.getfield 36, 3) := by decide +kernel
theorem dX6_addShot_62 : decode cX6_addShot 62 = .ok (.iconst 1, 1) := by decide +kernel
theorem dX6_addShot_63 : decode cX6_addShot 63 = .ok (.iadd, 1) := by decide +kernel
theorem dX6_addShot_64 : decode cX6_addShot 64 = .ok (.putfield 36, 3) := by decide +kernel
theorem dX6_addShot_67 : decode cX6_addShot 67 = .ok (.return_, 1) := by decide +kernel
def fX6_addShot (t0 : Nat) (a1 : Int) (a2 : Int) (a3 : Int) (a4 : Int) (s0 : Mem) : Option Res :=
 rd (s0 (t0 + 1)) (s0 t0 0) 17 (fun v1 =>
 ST s0 (t0 + 1) (wr ((s0 t0 0) + 1)) 17 (wr (v1 + a1)) (fun s2 =>
 bnd (fX6_putLights (t0 + 2) 48 (s2 t0 0) a2 a3 a4 s2) (fun _ s4 =>
 ST s4 (t0 + 3) (s4 t0 0) 16 0 (fun s5 =>
 ST s5 (t0 + 5) (s5 t0 0) 16 0 (fun s6 =>
 lt (up s6 t0 0 (wr ((s6 t0 0) + 1))) (fun s7 =>
 some (0, s7)))))))
set_option maxRecDepth 100000 in
set_option maxHeartbeats 4000000 in
theorem mX6_addShot (l : Launch) (D : va_G) (ad : Nat → Nat) (cA : Nat → ClassId) (t0 : Nat) (h0 : isSc t0) (a1 : Int) (a2 : Int) (a3 : Int) (a4 : Int) (s0 : Mem) : MCv l D ad cA yX6_addShot cX6_addShot 5 none rmX6_addShot [.inr (.inr t0), .inl a1, .inl a2, .inl a3, .inl a4] s0 (fX6_addShot t0 a1 a2 a3 a4 s0) := by
  refine MCv_ofE (own := RX6) (ls := [some (.inr (.inr t0)), some (.inl a1), some (.inl a2), some (.inl a3), some (.inl a4)]) 0 (by decide +kernel) rfl rfl (fun _ => Nat.le_of_ble_eq_true rfl) (fun K hq => ?_)
  unfold fX6_addShot
  refine j_aload_n dX6_addShot_0 rfl rfl ?_
  refine j_getR fl_RX6_9 (sc_o h0) rfl dX6_addShot_1 ?_
  refine j_aload_n dX6_addShot_4 rfl rfl ?_
  refine j_getI fl_RX6_36 (sc_o h0) rfl dX6_addShot_5 ?_
  refine j_iconst dX6_addShot_8 (inr_d rfl) ?_
  refine j_iadd dX6_addShot_9 ?_
  refine j_aload_n dX6_addShot_10 rfl rfl ?_
  refine j_getR fl_RX6_9 (sc_o h0) rfl dX6_addShot_11 ?_
  refine j_aload_n dX6_addShot_14 rfl rfl ?_
  refine j_getI fl_RX6_36 (sc_o h0) rfl dX6_addShot_15 ?_
  refine j_iald (sc_2 h0) dX6_addShot_18 (fun v1 => ?_)
  refine j_iload_n dX6_addShot_19 rfl rfl ?_
  refine j_iadd dX6_addShot_20 ?_
  refine j_iast (sc_2 h0) dX6_addShot_21 (fun s2 => ?_)
  refine j_aload_n dX6_addShot_22 rfl rfl ?_
  refine j_getR fl_RX6_15 (sc_o h0) rfl dX6_addShot_23 ?_
  refine j_aload_n dX6_addShot_26 rfl rfl ?_
  refine j_getI fl_RX6_36 (sc_o h0) rfl dX6_addShot_27 ?_
  refine j_iload_n dX6_addShot_30 rfl rfl ?_
  refine j_iload_n dX6_addShot_31 rfl rfl ?_
  refine j_iload dX6_addShot_32 rfl ?_
  refine j_callSv (mX6_putLights (kl K) (kD K) (kad K) (kcA K) (t0 + 2) 48 (sc_3 h0) (by decide) (s2 t0 0) a2 a3 a4 s2) cw_RX6_43 ⟨rfl, rfl, by decide, by decide⟩ rfl rfl (Nat.le_of_ble_eq_true rfl) dX6_addShot_34 (fun _ s4 => ?_)
  refine j_aload_n dX6_addShot_37 rfl rfl ?_
  refine j_getR fl_RX6_18 (sc_o h0) rfl dX6_addShot_38 ?_
  refine j_aload_n dX6_addShot_41 rfl rfl ?_
  refine j_getI fl_RX6_36 (sc_o h0) rfl dX6_addShot_42 ?_
  refine j_iconst dX6_addShot_45 (inr_d rfl) ?_
  refine j_iast (sc_4 h0) dX6_addShot_46 (fun s5 => ?_)
  refine j_aload_n dX6_addShot_47 rfl rfl ?_
  refine j_getR fl_RX6_24 (sc_o h0) rfl dX6_addShot_48 ?_
  refine j_aload_n dX6_addShot_51 rfl rfl ?_
  refine j_getI fl_RX6_36 (sc_o h0) rfl dX6_addShot_52 ?_
  refine j_iconst dX6_addShot_55 (inr_d rfl) ?_
  refine j_iast (sc_6 h0) dX6_addShot_56 (fun s6 => ?_)
  refine j_aload_n dX6_addShot_57 rfl rfl ?_
  refine j_dup rfl dX6_addShot_58 ?_
  refine j_getI fl_RX6_36 (sc_o h0) rfl dX6_addShot_59 ?_
  refine j_iconst dX6_addShot_62 (inr_d rfl) ?_
  refine j_iadd dX6_addShot_63 ?_
  refine j_putI fp_RX6_36 (sc_o h0) rfl dX6_addShot_64 (fun s7 => ?_)
  exact j_vret hq dX6_addShot_67
abbrev rmX6_addFade : Room := { frames := 1, cells := 0, slots := 0, locals := 24 }
theorem dX6_addFade_0 : decode cX6_addFade 0 = .ok (.aload_n 0, 1) := by decide +kernel
theorem dX6_addFade_1 : decode cX6_addFade 1 = .ok (.getfield 18, 3) := by decide +kernel
theorem dX6_addFade_4 : decode cX6_addFade 4 = .ok (.aload_n 0, 1) := by decide +kernel
theorem dX6_addFade_5 : decode cX6_addFade 5 = .ok (.getfield 36, 3) := by decide +kernel
theorem dX6_addFade_8 : decode cX6_addFade 8 = .ok (.iconst 1, 1) := by decide +kernel
theorem dX6_addFade_9 : decode cX6_addFade 9 = .ok (.isub, 1) := by decide +kernel
theorem dX6_addFade_10 : decode cX6_addFade 10 = .ok (.iload_n 1, 1) := by decide +kernel
theorem dX6_addFade_11 : decode cX6_addFade 11 = .ok (.iastore, 1) := by decide +kernel
theorem dX6_addFade_12 : decode cX6_addFade 12 = .ok (.aload_n 0, 1) := by decide +kernel
theorem dX6_addFade_13 : decode cX6_addFade 13 = .ok (.getfield 21, 3) := by decide +kernel
theorem dX6_addFade_16 : decode cX6_addFade 16 = .ok (.aload_n 0, 1) := by decide +kernel
theorem dX6_addFade_17 : decode cX6_addFade 17 = .ok (.getfield 36, 3) := by decide +kernel
theorem dX6_addFade_20 : decode cX6_addFade 20 = .ok (.iconst 1, 1) := by decide +kernel
theorem dX6_addFade_21 : decode cX6_addFade 21 = .ok (.isub, 1) := by decide +kernel
theorem dX6_addFade_22 : decode cX6_addFade 22 = .ok (.iload_n 2, 1) := by decide +kernel
theorem dX6_addFade_23 : decode cX6_addFade 23 = .ok (.iload_n 3, 1) := by decide +kernel
theorem dX6_addFade_24 : decode cX6_addFade 24 = .ok (.iload 4, 2) := by decide +kernel
theorem dX6_addFade_26 : decode cX6_addFade 26 = .ok (.invokestatic 43, 3) := by decide +kernel
theorem dX6_addFade_29 : decode cX6_addFade 29 = .ok (.return_, 1) := by decide +kernel
def fX6_addFade (t0 : Nat) (a1 : Int) (a2 : Int) (a3 : Int) (a4 : Int) (s0 : Mem) : Option Res :=
 ST s0 (t0 + 3) (wr ((s0 t0 0) - 1)) 16 a1 (fun s1 =>
 bnd (fX6_putLights (t0 + 4) 48 (wr ((s1 t0 0) - 1)) a2 a3 a4 s1) (fun _ s3 =>
 some (0, s3)))
set_option maxRecDepth 100000 in
set_option maxHeartbeats 4000000 in
theorem mX6_addFade (l : Launch) (D : va_G) (ad : Nat → Nat) (cA : Nat → ClassId) (t0 : Nat) (h0 : isSc t0) (a1 : Int) (a2 : Int) (a3 : Int) (a4 : Int) (s0 : Mem) : MCv l D ad cA yX6_addFade cX6_addFade 5 none rmX6_addFade [.inr (.inr t0), .inl a1, .inl a2, .inl a3, .inl a4] s0 (fX6_addFade t0 a1 a2 a3 a4 s0) := by
  refine MCv_ofE (own := RX6) (ls := [some (.inr (.inr t0)), some (.inl a1), some (.inl a2), some (.inl a3), some (.inl a4)]) 0 (by decide +kernel) rfl rfl (fun _ => Nat.le_of_ble_eq_true rfl) (fun K hq => ?_)
  unfold fX6_addFade
  refine j_aload_n dX6_addFade_0 rfl rfl ?_
  refine j_getR fl_RX6_18 (sc_o h0) rfl dX6_addFade_1 ?_
  refine j_aload_n dX6_addFade_4 rfl rfl ?_
  refine j_getI fl_RX6_36 (sc_o h0) rfl dX6_addFade_5 ?_
  refine j_iconst dX6_addFade_8 (inr_d rfl) ?_
  refine j_isub dX6_addFade_9 ?_
  refine j_iload_n dX6_addFade_10 rfl rfl ?_
  refine j_iast (sc_4 h0) dX6_addFade_11 (fun s1 => ?_)
  refine j_aload_n dX6_addFade_12 rfl rfl ?_
  refine j_getR fl_RX6_21 (sc_o h0) rfl dX6_addFade_13 ?_
  refine j_aload_n dX6_addFade_16 rfl rfl ?_
  refine j_getI fl_RX6_36 (sc_o h0) rfl dX6_addFade_17 ?_
  refine j_iconst dX6_addFade_20 (inr_d rfl) ?_
  refine j_isub dX6_addFade_21 ?_
  refine j_iload_n dX6_addFade_22 rfl rfl ?_
  refine j_iload_n dX6_addFade_23 rfl rfl ?_
  refine j_iload dX6_addFade_24 rfl ?_
  refine j_callSv (mX6_putLights (kl K) (kD K) (kad K) (kcA K) (t0 + 4) 48 (sc_5 h0) (by decide) (wr ((s1 t0 0) - 1)) a2 a3 a4 s1) cw_RX6_43 ⟨rfl, rfl, by decide, by decide⟩ rfl rfl (Nat.le_of_ble_eq_true rfl) dX6_addFade_26 (fun _ s3 => ?_)
  exact j_vret hq dX6_addFade_29
abbrev rmX6_addEffect : Room := { frames := 0, cells := 0, slots := 0, locals := 0 }
theorem dX6_addEffect_0 : decode cX6_addEffect 0 = .ok (.aload_n 0, 1) := by decide +kernel
theorem dX6_addEffect_1 : decode cX6_addEffect 1 = .ok (.getfield 36, 3) := by decide +kernel
theorem dX6_addEffect_4 : decode cX6_addEffect 4 = .ok (.iconst 1, 1) := by decide +kernel
theorem dX6_addEffect_5 : decode cX6_addEffect 5 = .ok (.isub, 1) := by decide +kernel
theorem dX6_addEffect_6 : decode cX6_addEffect 6 = .ok (.iconst 4, 1) := by decide +kernel
theorem dX6_addEffect_7 : decode cX6_addEffect 7 = .ok (.imul, 1) := by decide +kernel
theorem dX6_addEffect_8 : decode cX6_addEffect 8 = .ok (.aload_n 0, 1) := by decide +kernel
theorem dX6_addEffect_9 : decode cX6_addEffect 9 = .ok (.getfield 24, 3) := by decide +kernel
theorem dX6_addEffect_12 : decode cX6_addEffect 12 = .ok (.aload_n 0, 1) := by decide +kernel
theorem dX6_addEffect_13 : decode cX6_addEffect 13 = .ok (.getfield 36, 3) := by decide +kernel
theorem dX6_addEffect_16 : decode cX6_addEffect 16 = .ok (.iconst 1, 1) := by decide +kernel
theorem dX6_addEffect_17 : decode cX6_addEffect 17 = .ok (.isub, 1) := by decide +kernel
theorem dX6_addEffect_18 : decode cX6_addEffect 18 = .ok (.iaload, 1) := by decide +kernel
theorem dX6_addEffect_19 : decode cX6_addEffect 19 = .ok (.iadd, 1) := by decide +kernel
theorem dX6_addEffect_20 : decode cX6_addEffect 20 = .ok (.istore 4, 2) := by decide +kernel
theorem dX6_addEffect_22 : decode cX6_addEffect 22 = .ok (.aload_n 0, 1) := by decide +kernel
theorem dX6_addEffect_23 : decode cX6_addEffect 23 = .ok (.getfield 27, 3) := by decide +kernel
theorem dX6_addEffect_26 : decode cX6_addEffect 26 = .ok (.iload 4, 2) := by decide +kernel
theorem dX6_addEffect_28 : decode cX6_addEffect 28 = .ok (.iload_n 1, 1) := by decide +kernel
theorem dX6_addEffect_29 : decode cX6_addEffect 29 = .ok (.iastore, 1) := by decide +kernel
theorem dX6_addEffect_30 : decode cX6_addEffect 30 = .ok (.aload_n 0, 1) := by decide +kernel
theorem dX6_addEffect_31 : decode cX6_addEffect 31 = .ok (.getfield 30, 3) := by decide +kernel
theorem dX6_addEffect_34 : decode cX6_addEffect 34 = .ok (.iload 4, 2) := by decide +kernel
theorem dX6_addEffect_36 : decode cX6_addEffect 36 = .ok (.iload_n 1, 1) := by decide +kernel
theorem dX6_addEffect_37 : decode cX6_addEffect 37 = .ok (.iload_n 2, 1) := by decide +kernel
theorem dX6_addEffect_38 : decode cX6_addEffect 38 = .ok (.iadd, 1) := by decide +kernel
theorem dX6_addEffect_39 : decode cX6_addEffect 39 = .ok (.iastore, 1) := by decide +kernel
theorem dX6_addEffect_40 : decode cX6_addEffect 40 = .ok (.aload_n 0, 1) := by decide +kernel
theorem dX6_addEffect_41 : decode cX6_addEffect 41 = .ok (.getfield 33, 3) := by decide +kernel
theorem dX6_addEffect_44 : decode cX6_addEffect 44 = .ok (.iload 4, 2) := by decide +kernel
theorem dX6_addEffect_46 : decode cX6_addEffect 46 = .ok (.iload_n 3, 1) := by decide +kernel
theorem dX6_addEffect_47 : decode cX6_addEffect 47 = .ok (.iastore, 1) := by decide +kernel
theorem dX6_addEffect_48 : decode cX6_addEffect 48 = .ok (.aload_n 0, 1) := by decide +kernel
theorem dX6_addEffect_49 : decode cX6_addEffect 49 = .ok (.getfield 24, 3) := by decide +kernel
theorem dX6_addEffect_52 : decode cX6_addEffect 52 = .ok (.aload_n 0, 1) := by decide +kernel
theorem dX6_addEffect_53 : decode cX6_addEffect 53 = .ok (.getfield 36, 3) := by decide +kernel
theorem dX6_addEffect_56 : decode cX6_addEffect 56 = .ok (.iconst 1, 1) := by decide +kernel
theorem dX6_addEffect_57 : decode cX6_addEffect 57 = .ok (.isub, 1) := by decide +kernel
theorem dX6_addEffect_58 : decode cX6_addEffect 58 = .ok (.dup2, 1) := by decide +kernel
theorem dX6_addEffect_59 : decode cX6_addEffect 59 = .ok (.iaload, 1) := by decide +kernel
theorem dX6_addEffect_60 : decode cX6_addEffect 60 = .ok (.iconst 1, 1) := by decide +kernel
theorem dX6_addEffect_61 : decode cX6_addEffect 61 = .ok (.iadd, 1) := by decide +kernel
theorem dX6_addEffect_62 : decode cX6_addEffect 62 = .ok (.iastore, 1) := by decide +kernel
theorem dX6_addEffect_63 : decode cX6_addEffect 63 = .ok (.return_, 1) := by decide +kernel
def fX6_addEffect (t0 : Nat) (a1 : Int) (a2 : Int) (a3 : Int) (s0 : Mem) : Option Res :=
 rd (s0 (t0 + 5)) (wr ((s0 t0 0) - 1)) 16 (fun v1 =>
 lt (wr ((wr ((wr ((s0 t0 0) - 1)) * 4)) + v1)) (fun v2 =>
 ST s0 (t0 + 6) v2 64 a1 (fun s3 =>
 ST s3 (t0 + 7) v2 64 (wr (a1 + a2)) (fun s4 =>
 ST s4 (t0 + 8) v2 64 a3 (fun s5 =>
 rd (s5 (t0 + 5)) (wr ((s5 t0 0) - 1)) 16 (fun v6 =>
 ST s5 (t0 + 5) (wr ((s5 t0 0) - 1)) 16 (wr (v6 + 1)) (fun s7 =>
 some (0, s7))))))))
set_option maxRecDepth 100000 in
set_option maxHeartbeats 4000000 in
theorem mX6_addEffect (l : Launch) (D : va_G) (ad : Nat → Nat) (cA : Nat → ClassId) (t0 : Nat) (h0 : isSc t0) (a1 : Int) (a2 : Int) (a3 : Int) (s0 : Mem) : MCv l D ad cA yX6_addEffect cX6_addEffect 5 none rmX6_addEffect [.inr (.inr t0), .inl a1, .inl a2, .inl a3] s0 (fX6_addEffect t0 a1 a2 a3 s0) := by
  refine MCv_ofE (own := RX6) (ls := [some (.inr (.inr t0)), some (.inl a1), some (.inl a2), some (.inl a3), none]) 1 (by decide +kernel) rfl rfl (fun _ => Nat.le_of_ble_eq_true rfl) (fun K hq => ?_)
  unfold fX6_addEffect
  refine j_aload_n dX6_addEffect_0 rfl rfl ?_
  refine j_getI fl_RX6_36 (sc_o h0) rfl dX6_addEffect_1 ?_
  refine j_iconst dX6_addEffect_4 (inr_d rfl) ?_
  refine j_isub dX6_addEffect_5 ?_
  refine j_iconst dX6_addEffect_6 (inr_d rfl) ?_
  refine j_imul dX6_addEffect_7 ?_
  refine j_aload_n dX6_addEffect_8 rfl rfl ?_
  refine j_getR fl_RX6_24 (sc_o h0) rfl dX6_addEffect_9 ?_
  refine j_aload_n dX6_addEffect_12 rfl rfl ?_
  refine j_getI fl_RX6_36 (sc_o h0) rfl dX6_addEffect_13 ?_
  refine j_iconst dX6_addEffect_16 (inr_d rfl) ?_
  refine j_isub dX6_addEffect_17 ?_
  refine j_iald (sc_6 h0) dX6_addEffect_18 (fun v1 => ?_)
  refine j_iadd dX6_addEffect_19 ?_
  refine j_ltv (fun v2 => ?_)
  refine j_istoreE (ls2 := [some (.inr (.inr t0)), some (.inl a1), some (.inl a2), some (.inl a3), some (.inl v2)]) dX6_addEffect_20 (by decide) rfl rfl ?_
  refine j_aload_n dX6_addEffect_22 rfl rfl ?_
  refine j_getR fl_RX6_27 (sc_o h0) rfl dX6_addEffect_23 ?_
  refine j_iload dX6_addEffect_26 rfl ?_
  refine j_iload_n dX6_addEffect_28 rfl rfl ?_
  refine j_iast (sc_7 h0) dX6_addEffect_29 (fun s3 => ?_)
  refine j_aload_n dX6_addEffect_30 rfl rfl ?_
  refine j_getR fl_RX6_30 (sc_o h0) rfl dX6_addEffect_31 ?_
  refine j_iload dX6_addEffect_34 rfl ?_
  refine j_iload_n dX6_addEffect_36 rfl rfl ?_
  refine j_iload_n dX6_addEffect_37 rfl rfl ?_
  refine j_iadd dX6_addEffect_38 ?_
  refine j_iast (sc_8 h0) dX6_addEffect_39 (fun s4 => ?_)
  refine j_aload_n dX6_addEffect_40 rfl rfl ?_
  refine j_getR fl_RX6_33 (sc_o h0) rfl dX6_addEffect_41 ?_
  refine j_iload dX6_addEffect_44 rfl ?_
  refine j_iload_n dX6_addEffect_46 rfl rfl ?_
  refine j_iast (sc_9 h0) dX6_addEffect_47 (fun s5 => ?_)
  refine j_aload_n dX6_addEffect_48 rfl rfl ?_
  refine j_getR fl_RX6_24 (sc_o h0) rfl dX6_addEffect_49 ?_
  refine j_aload_n dX6_addEffect_52 rfl rfl ?_
  refine j_getI fl_RX6_36 (sc_o h0) rfl dX6_addEffect_53 ?_
  refine j_iconst dX6_addEffect_56 (inr_d rfl) ?_
  refine j_isub dX6_addEffect_57 ?_
  refine j_dup2 (b := 0) dX6_addEffect_58 ?_
  refine j_iald (sc_6 h0) dX6_addEffect_59 (fun v6 => ?_)
  refine j_iconst dX6_addEffect_60 (inr_d rfl) ?_
  refine j_iadd dX6_addEffect_61 ?_
  refine j_iast (sc_6 h0) dX6_addEffect_62 (fun s7 => ?_)
  exact j_vret hq dX6_addEffect_63
abbrev rmX6_frames : Room := { frames := 0, cells := 0, slots := 0, locals := 0 }
theorem dX6_frames_0 : decode cX6_frames 0 = .ok (.aload_n 0, 1) := by decide +kernel
theorem dX6_frames_1 : decode cX6_frames 1 = .ok (.getfield 9, 3) := by decide +kernel
theorem dX6_frames_4 : decode cX6_frames 4 = .ok (.aload_n 0, 1) := by decide +kernel
theorem dX6_frames_5 : decode cX6_frames 5 = .ok (.getfield 36, 3) := by decide +kernel
theorem dX6_frames_8 : decode cX6_frames 8 = .ok (.iaload, 1) := by decide +kernel
theorem dX6_frames_9 : decode cX6_frames 9 = .ok (.ireturn, 1) := by decide +kernel
def fX6_frames (t0 : Nat) (s0 : Mem) : Option Res :=
 rd (s0 (t0 + 1)) (s0 t0 0) 17 (fun v1 =>
 some (v1, s0))
set_option maxRecDepth 100000 in
set_option maxHeartbeats 4000000 in
theorem mX6_frames (l : Launch) (D : va_G) (ad : Nat → Nat) (cA : Nat → ClassId) (t0 : Nat) (h0 : isSc t0) (s0 : Mem) : MCi l D ad cA yX6_frames cX6_frames 1 (some .int) rmX6_frames [.inr (.inr t0)] s0 (fX6_frames t0 s0) := by
  refine MCi_ofE (own := RX6) (ls := [some (.inr (.inr t0))]) 0 (by decide +kernel) rfl rfl (fun _ => Nat.le_of_ble_eq_true rfl) (fun K hq => ?_)
  unfold fX6_frames
  refine j_aload_n dX6_frames_0 rfl rfl ?_
  refine j_getR fl_RX6_9 (sc_o h0) rfl dX6_frames_1 ?_
  refine j_aload_n dX6_frames_4 rfl rfl ?_
  refine j_getI fl_RX6_36 (sc_o h0) rfl dX6_frames_5 ?_
  refine j_iald (sc_2 h0) dX6_frames_8 (fun v1 => ?_)
  exact j_iret hq dX6_frames_9
abbrev rmX6_copiesOrOne : Room := { frames := 1, cells := 0, slots := 0, locals := 21 }
theorem dX6_copiesOrOne_0 : decode cX6_copiesOrOne 0 = .ok (.iconst 1, 1) := by decide +kernel
theorem dX6_copiesOrOne_1 : decode cX6_copiesOrOne 1 = .ok (.aload_n 0, 1) := by decide +kernel
theorem dX6_copiesOrOne_2 : decode cX6_copiesOrOne 2 = .ok (.getfield 40, 3) := by decide +kernel
theorem dX6_copiesOrOne_5 : decode cX6_copiesOrOne 5 = .ok (.invokestatic 47, 3) := by decide +kernel
theorem dX6_copiesOrOne_8 : decode cX6_copiesOrOne 8 = .ok (.ireturn, 1) := by decide +kernel
def fX6_copiesOrOne (t0 : Nat) (s0 : Mem) : Option Res :=
 some (mx 1 (s0 t0 1), s0)
set_option maxRecDepth 100000 in
set_option maxHeartbeats 4000000 in
theorem mX6_copiesOrOne (l : Launch) (D : va_G) (ad : Nat → Nat) (cA : Nat → ClassId) (t0 : Nat) (h0 : isSc t0) (s0 : Mem) : MCi l D ad cA yX6_copiesOrOne cX6_copiesOrOne 1 (some .int) rmX6_copiesOrOne [.inr (.inr t0)] s0 (fX6_copiesOrOne t0 s0) := by
  refine MCi_ofE (own := RX6) (ls := [some (.inr (.inr t0))]) 0 (by decide +kernel) rfl rfl (fun _ => Nat.le_of_ble_eq_true rfl) (fun K hq => ?_)
  unfold fX6_copiesOrOne
  refine j_iconst dX6_copiesOrOne_0 (inr_d rfl) ?_
  refine j_aload_n dX6_copiesOrOne_1 rfl rfl ?_
  refine j_getI fl_RX6_40 (sc_o h0) rfl dX6_copiesOrOne_2 ?_
  refine j_max mw_RX6_47 ⟨by decide, Nat.le_of_ble_eq_true rfl⟩ dX6_copiesOrOne_5 ?_
  exact j_iret hq dX6_copiesOrOne_8
abbrev rmX6_hasFrame : Room := { frames := 1, cells := 0, slots := 0, locals := 20 }
theorem dX6_hasFrame_0 : decode cX6_hasFrame 0 = .ok (.aload_n 0, 1) := by decide +kernel
theorem dX6_hasFrame_1 : decode cX6_hasFrame 1 = .ok (.getfield 36, 3) := by decide +kernel
theorem dX6_hasFrame_4 : decode cX6_hasFrame 4 = .ok (.ifCond .le 19, 3) := by decide +kernel
theorem dX6_hasFrame_7 : decode cX6_hasFrame 7 = .ok (.iload_n 1, 1) := by decide +kernel
theorem dX6_hasFrame_8 : decode cX6_hasFrame 8 = .ok (.ifCond .lt 15, 3) := by decide +kernel
theorem dX6_hasFrame_11 : decode cX6_hasFrame 11 = .ok (.iload_n 1, 1) := by decide +kernel
theorem dX6_hasFrame_12 : decode cX6_hasFrame 12 = .ok (.aload_n 0, 1) := by decide +kernel
theorem dX6_hasFrame_13 : decode cX6_hasFrame 13 = .ok (.invokevirtual 53, 3) := by decide +kernel
theorem dX6_hasFrame_16 : decode cX6_hasFrame 16 = .ok (.if_icmp .ge 7, 3) := by decide +kernel
theorem dX6_hasFrame_19 : decode cX6_hasFrame 19 = .ok (.iconst 1, 1) := by decide +kernel
theorem dX6_hasFrame_20 : decode cX6_hasFrame 20 = .ok (.goto 4, 3) := by decide +kernel
theorem dX6_hasFrame_23 : decode cX6_hasFrame 23 = .ok (.iconst 0, 1) := by decide +kernel
theorem dX6_hasFrame_24 : decode cX6_hasFrame 24 = .ok (.ireturn, 1) := by decide +kernel
def fX6_hasFrame (t0 : Nat) (a1 : Int) (s0 : Mem) : Option Res :=
 (if s0 t0 0 ≤ 0 then
 zr 0 s0
 else
 (if a1 < 0 then
 zr 0 s0
 else
 bnd (fX6_frames t0 s0) (fun r1 s2 =>
 (if r1 ≤ a1 then
 zr 0 s2
 else
 zr 1 s2))))
set_option maxRecDepth 100000 in
set_option maxHeartbeats 4000000 in
theorem mX6_hasFrame (l : Launch) (D : va_G) (ad : Nat → Nat) (cA : Nat → ClassId) (t0 : Nat) (h0 : isSc t0) (a1 : Int) (s0 : Mem) : MCi l D ad cA yX6_hasFrame cX6_hasFrame 2 (some .boolean) rmX6_hasFrame [.inr (.inr t0), .inl a1] s0 (fX6_hasFrame t0 a1 s0) := by
  refine MCi_ofE (own := RX6) (ls := [some (.inr (.inr t0)), some (.inl a1)]) 0 (by decide +kernel) rfl rfl (fun _ => Nat.le_of_ble_eq_true rfl) (fun K hq => ?_)
  unfold fX6_hasFrame
  refine j_aload_n dX6_hasFrame_0 rfl rfl ?_
  refine j_getI fl_RX6_36 (sc_o h0) rfl dX6_hasFrame_1 ?_
  refine j_if_le (tgt := 23) dX6_hasFrame_4 rfl ?_ ?_
  · refine j_iconst dX6_hasFrame_23 (inr_d rfl) ?_
    exact j_zret hq dX6_hasFrame_24
  · refine j_iload_n dX6_hasFrame_7 rfl rfl ?_
    refine j_if_lt (tgt := 23) dX6_hasFrame_8 rfl ?_ ?_
    · refine j_iconst dX6_hasFrame_23 (inr_d rfl) ?_
      exact j_zret hq dX6_hasFrame_24
    · refine j_iload_n dX6_hasFrame_11 rfl rfl ?_
      refine j_aload_n dX6_hasFrame_12 rfl rfl ?_
      refine j_callVi (mX6_frames (kl K) (kD K) (kad K) (kcA K) t0 h0 s0) cw_RX6_53 (sc_o h0) rfl ⟨rfl, rfl, by decide, by decide⟩ rfl rfl (Nat.le_of_ble_eq_true rfl) dX6_hasFrame_13 (fun r1 s2 => ?_)
      refine j_icmp_ge (tgt := 23) dX6_hasFrame_16 rfl ?_ ?_
      · refine j_iconst dX6_hasFrame_23 (inr_d rfl) ?_
        exact j_zret hq dX6_hasFrame_24
      · refine j_iconst dX6_hasFrame_19 (inr_d rfl) ?_
        refine j_goto (tgt := 24) dX6_hasFrame_20 rfl ?_
        exact j_zret hq dX6_hasFrame_24
abbrev rmX6_lightAt : Room := { frames := 3, cells := 0, slots := 0, locals := 70 }
theorem dX6_lightAt_0 : decode cX6_lightAt 0 = .ok (.aload_n 0, 1) := by decide +kernel
theorem dX6_lightAt_1 : decode cX6_lightAt 1 = .ok (.iload_n 1, 1) := by decide +kernel
theorem dX6_lightAt_2 : decode cX6_lightAt 2 = .ok (.invokevirtual 57, 3) := by decide +kernel
theorem dX6_lightAt_5 : decode cX6_lightAt 5 = .ok (.istore_n 3, 1) := by decide +kernel
theorem dX6_lightAt_6 : decode cX6_lightAt 6 = .ok (.aload_n 0, 1) := by decide +kernel
theorem dX6_lightAt_7 : decode cX6_lightAt 7 = .ok (.iload_n 3, 1) := by decide +kernel
theorem dX6_lightAt_8 : decode cX6_lightAt 8 = .ok (.iload_n 1, 1) := by decide +kernel
theorem dX6_lightAt_9 : decode cX6_lightAt 9 = .ok (.aload_n 0, 1) := by decide +kernel
theorem dX6_lightAt_10 : decode cX6_lightAt 10 = .ok (.getfield 9, 3) := by decide +kernel
theorem dX6_lightAt_13 : decode cX6_lightAt 13 = .ok (.iload_n 3, 1) := by decide +kernel
theorem dX6_lightAt_14 : decode cX6_lightAt 14 = .ok (.iaload, 1) := by decide +kernel
theorem dX6_lightAt_15 : decode cX6_lightAt 15 = .ok (.isub, 1) := by decide +kernel
theorem dX6_lightAt_16 : decode cX6_lightAt 16 = .ok (.iload_n 2, 1) := by decide +kernel
theorem dX6_lightAt_17 : decode cX6_lightAt 17 = .ok (.invokevirtual 61, 3) := by decide +kernel
theorem dX6_lightAt_20 : decode cX6_lightAt 20 = .ok (.ireturn, 1) := by decide +kernel
def fX6_lightAt (t0 : Nat) (a1 : Int) (a2 : Int) (s0 : Mem) : Option Res :=
 bnd (fX6_shotAt t0 a1 s0) (fun r1 s2 =>
 rd (s2 (t0 + 1)) r1 17 (fun v3 =>
 bnd (fX6_lightIn t0 r1 (wr (a1 - v3)) a2 s2) (fun r4 s5 =>
 some (r4, s5))))
set_option maxRecDepth 100000 in
set_option maxHeartbeats 4000000 in
theorem mX6_lightAt (l : Launch) (D : va_G) (ad : Nat → Nat) (cA : Nat → ClassId) (t0 : Nat) (h0 : isSc t0) (a1 : Int) (a2 : Int) (s0 : Mem) : MCi l D ad cA yX6_lightAt cX6_lightAt 4 (some .int) rmX6_lightAt [.inr (.inr t0), .inl a1, .inl a2] s0 (fX6_lightAt t0 a1 a2 s0) := by
  refine MCi_ofE (own := RX6) (ls := [some (.inr (.inr t0)), some (.inl a1), some (.inl a2), none]) 1 (by decide +kernel) rfl rfl (fun _ => Nat.le_of_ble_eq_true rfl) (fun K hq => ?_)
  unfold fX6_lightAt
  refine j_aload_n dX6_lightAt_0 rfl rfl ?_
  refine j_iload_n dX6_lightAt_1 rfl rfl ?_
  refine j_callVi (mX6_shotAt (kl K) (kD K) (kad K) (kcA K) t0 h0 a1 s0) cw_RX6_57 (sc_o h0) rfl ⟨rfl, rfl, by decide, by decide⟩ rfl rfl (Nat.le_of_ble_eq_true rfl) dX6_lightAt_2 (fun r1 s2 => ?_)
  refine j_istore_nE (ls2 := [some (.inr (.inr t0)), some (.inl a1), some (.inl a2), some (.inl r1)]) dX6_lightAt_5 rfl (by decide) rfl rfl ?_
  refine j_aload_n dX6_lightAt_6 rfl rfl ?_
  refine j_iload_n dX6_lightAt_7 rfl rfl ?_
  refine j_iload_n dX6_lightAt_8 rfl rfl ?_
  refine j_aload_n dX6_lightAt_9 rfl rfl ?_
  refine j_getR fl_RX6_9 (sc_o h0) rfl dX6_lightAt_10 ?_
  refine j_iload_n dX6_lightAt_13 rfl rfl ?_
  refine j_iald (sc_2 h0) dX6_lightAt_14 (fun v3 => ?_)
  refine j_isub dX6_lightAt_15 ?_
  refine j_iload_n dX6_lightAt_16 rfl rfl ?_
  refine j_callVi (mX6_lightIn (kl K) (kD K) (kad K) (kcA K) t0 h0 r1 (wr (a1 - v3)) a2 s2) cw_RX6_61 (sc_o h0) rfl ⟨rfl, rfl, by decide, by decide⟩ rfl rfl (Nat.le_of_ble_eq_true rfl) dX6_lightAt_17 (fun r4 s5 => ?_)
  exact j_iret hq dX6_lightAt_20
abbrev rmX7_add : Room := { frames := 0, cells := 0, slots := 0, locals := 0 }
theorem dX7_add_0 : decode cX7_add 0 = .ok (.aload_n 0, 1) := by decide +kernel
theorem dX7_add_1 : decode cX7_add 1 = .ok (.getfield 27, 3) := by decide +kernel
theorem dX7_add_4 : decode cX7_add 4 = .ok (.bipush 20, 2) := by decide +kernel
theorem dX7_add_6 : decode cX7_add 6 = .ok (.if_icmp .lt 5, 3) := by decide +kernel
theorem dX7_add_9 : decode cX7_add 9 = .ok (.iconst 0, 1) := by decide +kernel
theorem dX7_add_10 : decode cX7_add 10 = .ok (.ireturn, 1) := by decide +kernel
theorem dX7_add_11 : decode cX7_add 11 = .ok (.aload_n 0, 1) := by decide +kernel
theorem dX7_add_12 : decode cX7_add 12 = .ok (.getfield 11, 3) := by decide +kernel
theorem dX7_add_15 : decode cX7_add 15 = .ok (.aload_n 0, 1) := by decide +kernel
theorem dX7_add_16 : decode cX7_add 16 = .ok (.getfield 27, 3) := by decide +kernel
theorem dX7_add_19 : decode cX7_add 19 = .ok (.iload_n 1, 1) := by decide +kernel
theorem dX7_add_20 : decode cX7_add 20 = .ok (.iastore, 1) := by decide +kernel
theorem dX7_add_21 : decode cX7_add 21 = .ok (.aload_n 0, 1) := by decide +kernel
theorem dX7_add_22 : decode cX7_add 22 = .ok (.getfield 15, 3) := by decide +kernel
theorem dX7_add_25 : decode cX7_add 25 = .ok (.aload_n 0, 1) := by decide +kernel
theorem dX7_add_26 : decode cX7_add 26 = .ok (.getfield 27, 3) := by decide +kernel
theorem dX7_add_29 : decode cX7_add 29 = .ok (.iload_n 2, 1) := by decide +kernel
theorem dX7_add_30 : decode cX7_add 30 = .ok (.iastore, 1) := by decide +kernel
theorem dX7_add_31 : decode cX7_add 31 = .ok (.aload_n 0, 1) := by decide +kernel
theorem dX7_add_32 : decode cX7_add 32 = .ok (.getfield 18, 3) := by decide +kernel
theorem dX7_add_35 : decode cX7_add 35 = .ok (.aload_n 0, 1) := by decide +kernel
theorem dX7_add_36 : decode cX7_add 36 = .ok (.getfield 27, 3) := by decide +kernel
theorem dX7_add_39 : decode cX7_add 39 = .ok (.iload_n 3, 1) := by decide +kernel
theorem dX7_add_40 : decode cX7_add 40 = .ok (.iastore, 1) := by decide +kernel
theorem dX7_add_41 : decode cX7_add 41 = .ok (.aload_n 0, 1) := by decide +kernel
theorem dX7_add_42 : decode cX7_add 42 = .ok (.dup, 1) := by decide +kernel
theorem dX7_add_43 : decode cX7_add 43 = .ok (.getfield 27, 3) := by decide +kernel
theorem dX7_add_46 : decode cX7_add 46 = .ok (.iconst 1, 1) := by decide +kernel
theorem dX7_add_47 : decode cX7_add 47 = .ok (.iadd, 1) := by decide +kernel
theorem dX7_add_48 : decode cX7_add 48 = .ok (.putfield 27, 3) := by decide +kernel
theorem dX7_add_51 : decode cX7_add 51 = .ok (.iconst 1, 1) := by decide +kernel
theorem dX7_add_52 : decode cX7_add 52 = .ok (.ireturn, 1) := by decide +kernel
def fX7_add (a1 : Int) (a2 : Int) (a3 : Int) (s0 : Mem) : Option Res :=
 (if s0 83 3 < 20 then
 ST s0 84 (s0 83 3) 20 a1 (fun s1 =>
 ST s1 85 (s1 83 3) 20 a2 (fun s2 =>
 ST s2 86 (s2 83 3) 20 a3 (fun s3 =>
 lt (up s3 83 3 (wr ((s3 83 3) + 1))) (fun s4 =>
 zr 1 s4))))
 else
 zr 0 s0)
set_option maxRecDepth 100000 in
set_option maxHeartbeats 4000000 in
theorem mX7_add (l : Launch) (D : va_G) (ad : Nat → Nat) (cA : Nat → ClassId) (a1 : Int) (a2 : Int) (a3 : Int) (s0 : Mem) : MCi l D ad cA yX7_add cX7_add 4 (some .boolean) rmX7_add [.inr (.inr 83), .inl a1, .inl a2, .inl a3] s0 (fX7_add a1 a2 a3 s0) := by
  refine MCi_ofE (own := RX7) (ls := [some (.inr (.inr 83)), some (.inl a1), some (.inl a2), some (.inl a3)]) 0 (by decide +kernel) rfl rfl (fun _ => Nat.le_of_ble_eq_true rfl) (fun K hq => ?_)
  unfold fX7_add
  refine j_aload_n dX7_add_0 rfl rfl ?_
  refine j_getI fl_RX7_27 sh_83 rfl dX7_add_1 ?_
  refine j_bipush (v := 20) dX7_add_4 (by decide +kernel) (inr_d rfl) ?_
  refine j_icmp_lt (tgt := 11) dX7_add_6 rfl ?_ ?_
  · refine j_aload_n dX7_add_11 rfl rfl ?_
    refine j_getR fl_RX7_11 sh_83 rfl dX7_add_12 ?_
    refine j_aload_n dX7_add_15 rfl rfl ?_
    refine j_getI fl_RX7_27 sh_83 rfl dX7_add_16 ?_
    refine j_iload_n dX7_add_19 rfl rfl ?_
    refine j_iast sh_84 dX7_add_20 (fun s1 => ?_)
    refine j_aload_n dX7_add_21 rfl rfl ?_
    refine j_getR fl_RX7_15 sh_83 rfl dX7_add_22 ?_
    refine j_aload_n dX7_add_25 rfl rfl ?_
    refine j_getI fl_RX7_27 sh_83 rfl dX7_add_26 ?_
    refine j_iload_n dX7_add_29 rfl rfl ?_
    refine j_iast sh_85 dX7_add_30 (fun s2 => ?_)
    refine j_aload_n dX7_add_31 rfl rfl ?_
    refine j_getR fl_RX7_18 sh_83 rfl dX7_add_32 ?_
    refine j_aload_n dX7_add_35 rfl rfl ?_
    refine j_getI fl_RX7_27 sh_83 rfl dX7_add_36 ?_
    refine j_iload_n dX7_add_39 rfl rfl ?_
    refine j_iast sh_86 dX7_add_40 (fun s3 => ?_)
    refine j_aload_n dX7_add_41 rfl rfl ?_
    refine j_dup rfl dX7_add_42 ?_
    refine j_getI fl_RX7_27 sh_83 rfl dX7_add_43 ?_
    refine j_iconst dX7_add_46 (inr_d rfl) ?_
    refine j_iadd dX7_add_47 ?_
    refine j_putI fp_RX7_27 sh_83 rfl dX7_add_48 (fun s4 => ?_)
    refine j_iconst dX7_add_51 (inr_d rfl) ?_
    exact j_zret hq dX7_add_52
  · refine j_iconst dX7_add_9 (inr_d rfl) ?_
    exact j_zret hq dX7_add_10
abbrev rmX7_weighStrip : Room := { frames := 1, cells := 0, slots := 0, locals := 21 }
theorem dX7_weighStrip_0 : decode cX7_weighStrip 0 = .ok (.aload_n 0, 1) := by decide +kernel
theorem dX7_weighStrip_1 : decode cX7_weighStrip 1 = .ok (.getfield 18, 3) := by decide +kernel
theorem dX7_weighStrip_4 : decode cX7_weighStrip 4 = .ok (.iload_n 1, 1) := by decide +kernel
theorem dX7_weighStrip_5 : decode cX7_weighStrip 5 = .ok (.iaload, 1) := by decide +kernel
theorem dX7_weighStrip_6 : decode cX7_weighStrip 6 = .ok (.invokestatic 49, 3) := by decide +kernel
theorem dX7_weighStrip_9 : decode cX7_weighStrip 9 = .ok (.iload_n 2, 1) := by decide +kernel
theorem dX7_weighStrip_10 : decode cX7_weighStrip 10 = .ok (.if_icmp .gt 7, 3) := by decide +kernel
theorem dX7_weighStrip_13 : decode cX7_weighStrip 13 = .ok (.iconst 1, 1) := by decide +kernel
theorem dX7_weighStrip_14 : decode cX7_weighStrip 14 = .ok (.goto 4, 3) := by decide +kernel
theorem dX7_weighStrip_17 : decode cX7_weighStrip 17 = .ok (.iconst 0, 1) := by decide +kernel
theorem dX7_weighStrip_18 : decode cX7_weighStrip 18 = .ok (.istore_n 3, 1) := by decide +kernel
theorem dX7_weighStrip_19 : decode cX7_weighStrip 19 = .ok (.aload_n 0, 1) := by decide +kernel
theorem dX7_weighStrip_20 : decode cX7_weighStrip 20 = .ok (.aload_n 0, 1) := by decide +kernel
theorem dX7_weighStrip_21 : decode cX7_weighStrip 21 = .ok (.getfield 31, 3) := by decide +kernel
theorem dX7_weighStrip_24 : decode cX7_weighStrip 24 = .ok (.ifCond .eq 11, 3) := by decide +kernel
theorem dX7_weighStrip_27 : decode cX7_weighStrip 27 = .ok (.iload_n 3, 1) := by decide +kernel
theorem dX7_weighStrip_28 : decode cX7_weighStrip 28 = .ok (.ifCond .eq 7, 3) := by decide +kernel
theorem dX7_weighStrip_31 : decode cX7_weighStrip 31 = .ok (.iconst 1, 1) := by decide +kernel
theorem dX7_weighStrip_32 : decode cX7_weighStrip 32 = .ok (.goto 4, 3) := by decide +kernel
theorem dX7_weighStrip_35 : decode cX7_weighStrip 35 = .ok (.iconst 0, 1) := by decide +kernel
theorem dX7_weighStrip_36 : decode cX7_weighStrip 36 = .ok (.putfield 31, 3) := by decide +kernel
theorem dX7_weighStrip_39 : decode cX7_weighStrip 39 = .ok (.iconst 0, 1) := by decide +kernel
theorem dX7_weighStrip_40 : decode cX7_weighStrip 40 = .ok (.istore 4, 2) := by decide +kernel
theorem dX7_weighStrip_42 : decode cX7_weighStrip 42 = .ok (.iload 4, 2) := by decide +kernel
theorem dX7_weighStrip_44 : decode cX7_weighStrip 44 = .ok (.iconst 3, 1) := by decide +kernel
theorem dX7_weighStrip_45 : decode cX7_weighStrip 45 = .ok (.if_icmp .gt 141, 3) := by decide +kernel
theorem dX7_weighStrip_48 : decode cX7_weighStrip 48 = .ok (.iload 4, 2) := by decide +kernel
theorem dX7_weighStrip_50 : decode cX7_weighStrip 50 = .ok (.iconst 3, 1) := by decide +kernel
theorem dX7_weighStrip_51 : decode cX7_weighStrip 51 = .ok (.if_icmp .eq 14, 3) := by decide +kernel
theorem dX7_weighStrip_54 : decode cX7_weighStrip 54 = .ok (.iload 4, 2) := by decide +kernel
theorem dX7_weighStrip_56 : decode cX7_weighStrip 56 = .ok (.aload_n 0, 1) := by decide +kernel
theorem dX7_weighStrip_57 : decode cX7_weighStrip 57 = .ok (.getfield 15, 3) := by decide +kernel
theorem dX7_weighStrip_60 : decode cX7_weighStrip 60 = .ok (.iload_n 1, 1) := by decide +kernel
theorem dX7_weighStrip_61 : decode cX7_weighStrip 61 = .ok (.iaload, 1) := by decide +kernel
theorem dX7_weighStrip_62 : decode cX7_weighStrip 62 = .ok (.if_icmp .ne 7, 3) := by decide +kernel
theorem dX7_weighStrip_65 : decode cX7_weighStrip 65 = .ok (.iconst 1, 1) := by decide +kernel
theorem dX7_weighStrip_66 : decode cX7_weighStrip 66 = .ok (.goto 4, 3) := by decide +kernel
theorem dX7_weighStrip_69 : decode cX7_weighStrip 69 = .ok (.iconst 0, 1) := by decide +kernel
theorem dX7_weighStrip_70 : decode cX7_weighStrip 70 = .ok (.istore 5, 2) := by decide +kernel
theorem dX7_weighStrip_72 : decode cX7_weighStrip 72 = .ok (.iconst 1, 1) := by decide +kernel
theorem dX7_weighStrip_73 : decode cX7_weighStrip 73 = .ok (.istore 6, 2) := by decide +kernel
theorem dX7_weighStrip_75 : decode cX7_weighStrip 75 = .ok (.iload 6, 2) := by decide +kernel
theorem dX7_weighStrip_77 : decode cX7_weighStrip 77 = .ok (.iconst 5, 1) := by decide +kernel
theorem dX7_weighStrip_78 : decode cX7_weighStrip 78 = .ok (.if_icmp .gt 102, 3) := by decide +kernel
theorem dX7_weighStrip_81 : decode cX7_weighStrip 81 = .ok (.iload 4, 2) := by decide +kernel
theorem dX7_weighStrip_83 : decode cX7_weighStrip 83 = .ok (.iconst 5, 1) := by decide +kernel
theorem dX7_weighStrip_84 : decode cX7_weighStrip 84 = .ok (.imul, 1) := by decide +kernel
theorem dX7_weighStrip_85 : decode cX7_weighStrip 85 = .ok (.iload 6, 2) := by decide +kernel
theorem dX7_weighStrip_87 : decode cX7_weighStrip 87 = .ok (.iadd, 1) := by decide +kernel
theorem dX7_weighStrip_88 : decode cX7_weighStrip 88 = .ok (.iconst 1, 1) := by decide +kernel
theorem dX7_weighStrip_89 : decode cX7_weighStrip 89 = .ok (.isub, 1) := by decide +kernel
theorem dX7_weighStrip_90 : decode cX7_weighStrip 90 = .ok (.istore 7, 2) := by decide +kernel
theorem dX7_weighStrip_92 : decode cX7_weighStrip 92 = .ok (.iload_n 3, 1) := by decide +kernel
theorem dX7_weighStrip_93 : decode cX7_weighStrip 93 = .ok (.ifCond .ne 35, 3) := by decide +kernel
theorem dX7_weighStrip_96 : decode cX7_weighStrip 96 = .ok (.aload_n 0, 1) := by decide +kernel
theorem dX7_weighStrip_97 : decode cX7_weighStrip 97 = .ok (.getfield 24, 3) := by decide +kernel
theorem dX7_weighStrip_100 : decode cX7_weighStrip 100 = .ok (.iload 7, 2) := by decide +kernel
theorem dX7_weighStrip_102 : decode cX7_weighStrip 102 = .ok (.aload_n 0, 1) := by decide +kernel
theorem dX7_weighStrip_103 : decode cX7_weighStrip 103 = .ok (.getfield 24, 3) := by decide +kernel
theorem dX7_weighStrip_106 : decode cX7_weighStrip 106 = .ok (.iload 7, 2) := by decide +kernel
theorem dX7_weighStrip_108 : decode cX7_weighStrip 108 = .ok (.iaload, 1) := by decide +kernel
theorem dX7_weighStrip_109 : decode cX7_weighStrip 109 = .ok (.iload 5, 2) := by decide +kernel
theorem dX7_weighStrip_111 : decode cX7_weighStrip 111 = .ok (.ifCond .eq 12, 3) := by decide +kernel
theorem dX7_weighStrip_114 : decode cX7_weighStrip 114 = .ok (.aload_n 0, 1) := by decide +kernel
theorem dX7_weighStrip_115 : decode cX7_weighStrip 115 = .ok (.getfield 11, 3) := by decide +kernel
theorem dX7_weighStrip_118 : decode cX7_weighStrip 118 = .ok (.iload_n 1, 1) := by decide +kernel
theorem dX7_weighStrip_119 : decode cX7_weighStrip 119 = .ok (.iaload, 1) := by decide +kernel
theorem dX7_weighStrip_120 : decode cX7_weighStrip 120 = .ok (.goto 4, 3) := by decide +kernel
theorem dX7_weighStrip_123 : decode cX7_weighStrip 123 = .ok (.iconst (-1), 1) := by decide +kernel
theorem dX7_weighStrip_124 : decode cX7_weighStrip 124 = .ok (.invokestatic 55, 3) := by decide +kernel
theorem dX7_weighStrip_127 : decode cX7_weighStrip 127 = .ok (.iastore, 1) := by decide +kernel
theorem dX7_weighStrip_128 : decode cX7_weighStrip 128 = .ok (.iload 5, 2) := by decide +kernel
theorem dX7_weighStrip_130 : decode cX7_weighStrip 130 = .ok (.ifCond .eq 44, 3) := by decide +kernel
theorem dX7_weighStrip_133 : decode cX7_weighStrip 133 = .ok (.aload_n 0, 1) := by decide +kernel
theorem dX7_weighStrip_134 : decode cX7_weighStrip 134 = .ok (.getfield 18, 3) := by decide +kernel
theorem dX7_weighStrip_137 : decode cX7_weighStrip 137 = .ok (.iload_n 1, 1) := by decide +kernel
theorem dX7_weighStrip_138 : decode cX7_weighStrip 138 = .ok (.iaload, 1) := by decide +kernel
theorem dX7_weighStrip_139 : decode cX7_weighStrip 139 = .ok (.iload 6, 2) := by decide +kernel
theorem dX7_weighStrip_141 : decode cX7_weighStrip 141 = .ok (.iadd, 1) := by decide +kernel
theorem dX7_weighStrip_142 : decode cX7_weighStrip 142 = .ok (.invokestatic 49, 3) := by decide +kernel
theorem dX7_weighStrip_145 : decode cX7_weighStrip 145 = .ok (.iload_n 2, 1) := by decide +kernel
theorem dX7_weighStrip_146 : decode cX7_weighStrip 146 = .ok (.if_icmp .le 28, 3) := by decide +kernel
theorem dX7_weighStrip_149 : decode cX7_weighStrip 149 = .ok (.aload_n 0, 1) := by decide +kernel
theorem dX7_weighStrip_150 : decode cX7_weighStrip 150 = .ok (.getfield 21, 3) := by decide +kernel
theorem dX7_weighStrip_153 : decode cX7_weighStrip 153 = .ok (.iload 7, 2) := by decide +kernel
theorem dX7_weighStrip_155 : decode cX7_weighStrip 155 = .ok (.aload_n 0, 1) := by decide +kernel
theorem dX7_weighStrip_156 : decode cX7_weighStrip 156 = .ok (.getfield 21, 3) := by decide +kernel
theorem dX7_weighStrip_159 : decode cX7_weighStrip 159 = .ok (.iload 7, 2) := by decide +kernel
theorem dX7_weighStrip_161 : decode cX7_weighStrip 161 = .ok (.iaload, 1) := by decide +kernel
theorem dX7_weighStrip_162 : decode cX7_weighStrip 162 = .ok (.aload_n 0, 1) := by decide +kernel
theorem dX7_weighStrip_163 : decode cX7_weighStrip 163 = .ok (.getfield 11, 3) := by decide +kernel
theorem dX7_weighStrip_166 : decode cX7_weighStrip 166 = .ok (.iload_n 1, 1) := by decide +kernel
theorem dX7_weighStrip_167 : decode cX7_weighStrip 167 = .ok (.iaload, 1) := by decide +kernel
theorem dX7_weighStrip_168 : decode cX7_weighStrip 168 = .ok (.iconst 1, 1) := by decide +kernel
theorem dX7_weighStrip_169 : decode cX7_weighStrip 169 = .ok (.iadd, 1) := by decide +kernel
theorem dX7_weighStrip_170 : decode cX7_weighStrip 170 = .ok (.invokestatic 59, 3) := by decide +kernel
theorem dX7_weighStrip_173 : decode cX7_weighStrip 173 = .ok (.iastore, 1) := by decide +kernel
theorem dX7_weighStrip_174 : decode cX7_weighStrip 174 = .ok (.iinc 6 1, 3) := by decide +kernel
theorem dX7_weighStrip_177 : decode cX7_weighStrip 177 = .ok (.goto (-102), 3) := by decide +kernel
theorem dX7_weighStrip_180 : decode cX7_weighStrip 180 = .ok (.iinc 4 1, 3) := by decide +kernel
theorem dX7_weighStrip_183 : decode cX7_weighStrip 183 = .ok (.goto (-141), 3) := by decide +kernel
theorem dX7_weighStrip_186 : decode cX7_weighStrip 186 = .ok (.return_, 1) := by decide +kernel
def LX7_weighStrip_75 (c1 : Int) (c2 : Int) (c3 : Int) (c4 : Int) (c5 : Int) (k180 : Mem → Option Res) : Nat → Int → Mem → Option Res
  | 0 => fun _ _ => none
  | n + 1 => fun x6 s => (if 5 < x6 then
 k180 s
 else
 lt (wr ((wr ((wr (c4 * 5)) + x6)) - 1)) (fun v7 =>
 jn (fun (s8 : Mem) =>
 (if c5 = 0 then
 LX7_weighStrip_75 c1 c2 c3 c4 c5 k180 n (wr (x6 + 1)) s8
 else
 rd (s8 86) c1 20 (fun v9 =>
 (if ab (wr (v9 + x6)) ≤ c2 then
 LX7_weighStrip_75 c1 c2 c3 c4 c5 k180 n (wr (x6 + 1)) s8
 else
 rd (s8 87) v7 20 (fun v10 =>
 rd (s8 84) c1 20 (fun v11 =>
 ST s8 87 v7 20 (mx v10 (wr (v11 + 1))) (fun s12 =>
 LX7_weighStrip_75 c1 c2 c3 c4 c5 k180 n (wr (x6 + 1)) s12))))))) (fun k128 =>
 (if c3 ≠ 0 then
 k128 s
 else
 rd (s 88) v7 20 (fun v13 =>
 jn (fun (u14 : Int) (s15 : Mem) =>
 ST s15 88 v7 20 (mn v13 u14) (fun s16 =>
 k128 s16)) (fun k124 =>
 (if c5 = 0 then
 k124 (-1) s
 else
 rd (s 84) c1 20 (fun v17 =>
 k124 v17 s))))))))
def LX7_weighStrip_42 (c1 : Int) (c2 : Int) (c3 : Int) (k186 : Mem → Option Res) : Nat → Int → Mem → Option Res
  | 0 => fun _ _ => none
  | n + 1 => fun x4 s => (if 3 < x4 then
 k186 s
 else
 (if x4 = 3 then
 LX7_weighStrip_75 c1 c2 c3 x4 1 (fun s18 =>
 LX7_weighStrip_42 c1 c2 c3 k186 n (wr (x4 + 1)) s18) FU 1 s
 else
 rd (s 85) c1 20 (fun v19 =>
 (if x4 ≠ v19 then
 LX7_weighStrip_75 c1 c2 c3 x4 0 (fun s20 =>
 LX7_weighStrip_42 c1 c2 c3 k186 n (wr (x4 + 1)) s20) FU 1 s
 else
 LX7_weighStrip_75 c1 c2 c3 x4 1 (fun s21 =>
 LX7_weighStrip_42 c1 c2 c3 k186 n (wr (x4 + 1)) s21) FU 1 s))))
def fX7_weighStrip (a1 : Int) (a2 : Int) (s0 : Mem) : Option Res :=
 rd (s0 86) a1 20 (fun v1 =>
 jn (fun (u2 : Int) (s3 : Mem) =>
 jn (fun (u4 : Int) (s5 : Mem) =>
 zp u4 (lt (up s5 83 6 u4) (fun s6 =>
 LX7_weighStrip_42 a1 a2 u2 (fun s22 =>
 some (0, s22)) FU 0 s6))) (fun k36 =>
 (if s3 83 6 = 0 then
 k36 0 s3
 else
 (if u2 = 0 then
 k36 0 s3
 else
 k36 1 s3)))) (fun k18 =>
 (if a2 < ab v1 then
 k18 0 s0
 else
 k18 1 s0)))
set_option maxRecDepth 100000 in
set_option maxHeartbeats 4000000 in
theorem jLX7_weighStrip_75 {K : KT} (hq : KV K none) (c1 : Int) (c2 : Int) (c3 : Int) (c4 : Int) (c5 : Int) (k180 : Mem → Option Res) (hk180 : ∀ (s : Mem), J K rmX7_weighStrip cX7_weighStrip RX7 8 180 [some (.inr (.inr 83)), some (.inl c1), some (.inl c2), some (.inl c3), some (.inl c4), none, none, none] [] s (k180 s)) : ∀ (n : Nat) (x6 : Int) (s : Mem), J K rmX7_weighStrip cX7_weighStrip RX7 8 75 [some (.inr (.inr 83)), some (.inl c1), some (.inl c2), some (.inl c3), some (.inl c4), some (.inl c5), some (.inl x6), none] [] s (LX7_weighStrip_75 c1 c2 c3 c4 c5 k180 n x6 s) := by
  intro n
  induction n with
  | zero => intros; exact J_none
  | succ n ih =>
    intro x6 s
    show J K _ _ _ _ _ _ _ _ (LX7_weighStrip_75 c1 c2 c3 c4 c5 k180 (n + 1) x6 s)
    simp only [LX7_weighStrip_75]
    refine j_iload dX7_weighStrip_75 rfl ?_
    refine j_iconst dX7_weighStrip_77 (inr_d rfl) ?_
    refine j_icmp_gt (tgt := 180) dX7_weighStrip_78 rfl ?_ ?_
    · exact j_msk [true, true, true, true, true, false, false, false] (hk180 _)
    · refine j_iload dX7_weighStrip_81 rfl ?_
      refine j_iconst dX7_weighStrip_83 (inr_d rfl) ?_
      refine j_imul dX7_weighStrip_84 ?_
      refine j_iload dX7_weighStrip_85 rfl ?_
      refine j_iadd dX7_weighStrip_87 ?_
      refine j_iconst dX7_weighStrip_88 (inr_d rfl) ?_
      refine j_isub dX7_weighStrip_89 ?_
      refine j_ltv (fun v7 => ?_)
      refine j_istoreE (ls2 := [some (.inr (.inr 83)), some (.inl c1), some (.inl c2), some (.inl c3), some (.inl c4), some (.inl c5), some (.inl x6), some (.inl v7)]) dX7_weighStrip_90 (by decide) rfl rfl ?_
      refine j_iload_n dX7_weighStrip_92 rfl rfl ?_
      refine j_jn (fun k128 => ∀ (s8 : Mem), J K rmX7_weighStrip cX7_weighStrip RX7 8 128 [some (.inr (.inr 83)), some (.inl c1), some (.inl c2), some (.inl c3), some (.inl c4), some (.inl c5), some (.inl x6), some (.inl v7)] [] s8 (k128 s8)) (fun s8 => ?_) (fun k128 hk128 => ?_)
      · refine j_iload dX7_weighStrip_128 rfl ?_
        refine j_if_eq (tgt := 174) dX7_weighStrip_130 rfl ?_ ?_
        · refine j_iincE (ls2 := [some (.inr (.inr 83)), some (.inl c1), some (.inl c2), some (.inl c3), some (.inl c4), some (.inl c5), some (.inl (wr (x6 + 1))), some (.inl v7)]) dX7_weighStrip_174 rfl (by decide) rfl rfl ?_
          refine j_goto (tgt := 75) dX7_weighStrip_177 rfl ?_
          exact j_msk [true, true, true, true, true, true, true, false] (ih _ _)
        · refine j_aload_n dX7_weighStrip_133 rfl rfl ?_
          refine j_getR fl_RX7_18 sh_83 rfl dX7_weighStrip_134 ?_
          refine j_iload_n dX7_weighStrip_137 rfl rfl ?_
          refine j_iald sh_86 dX7_weighStrip_138 (fun v9 => ?_)
          refine j_iload dX7_weighStrip_139 rfl ?_
          refine j_iadd dX7_weighStrip_141 ?_
          refine j_abs mw_RX7_49 ⟨by decide, Nat.le_of_ble_eq_true rfl⟩ dX7_weighStrip_142 ?_
          refine j_iload_n dX7_weighStrip_145 rfl rfl ?_
          refine j_icmp_le (tgt := 174) dX7_weighStrip_146 rfl ?_ ?_
          · refine j_iincE (ls2 := [some (.inr (.inr 83)), some (.inl c1), some (.inl c2), some (.inl c3), some (.inl c4), some (.inl c5), some (.inl (wr (x6 + 1))), some (.inl v7)]) dX7_weighStrip_174 rfl (by decide) rfl rfl ?_
            refine j_goto (tgt := 75) dX7_weighStrip_177 rfl ?_
            exact j_msk [true, true, true, true, true, true, true, false] (ih _ _)
          · refine j_aload_n dX7_weighStrip_149 rfl rfl ?_
            refine j_getR fl_RX7_21 sh_83 rfl dX7_weighStrip_150 ?_
            refine j_iload dX7_weighStrip_153 rfl ?_
            refine j_aload_n dX7_weighStrip_155 rfl rfl ?_
            refine j_getR fl_RX7_21 sh_83 rfl dX7_weighStrip_156 ?_
            refine j_iload dX7_weighStrip_159 rfl ?_
            refine j_iald sh_87 dX7_weighStrip_161 (fun v10 => ?_)
            refine j_aload_n dX7_weighStrip_162 rfl rfl ?_
            refine j_getR fl_RX7_11 sh_83 rfl dX7_weighStrip_163 ?_
            refine j_iload_n dX7_weighStrip_166 rfl rfl ?_
            refine j_iald sh_84 dX7_weighStrip_167 (fun v11 => ?_)
            refine j_iconst dX7_weighStrip_168 (inr_d rfl) ?_
            refine j_iadd dX7_weighStrip_169 ?_
            refine j_max mw_RX7_59 ⟨by decide, Nat.le_of_ble_eq_true rfl⟩ dX7_weighStrip_170 ?_
            refine j_iast sh_87 dX7_weighStrip_173 (fun s12 => ?_)
            refine j_iincE (ls2 := [some (.inr (.inr 83)), some (.inl c1), some (.inl c2), some (.inl c3), some (.inl c4), some (.inl c5), some (.inl (wr (x6 + 1))), some (.inl v7)]) dX7_weighStrip_174 rfl (by decide) rfl rfl ?_
            refine j_goto (tgt := 75) dX7_weighStrip_177 rfl ?_
            exact j_msk [true, true, true, true, true, true, true, false] (ih _ _)
      refine j_if_ne (tgt := 128) dX7_weighStrip_93 rfl ?_ ?_
      · exact j_msk [true, true, true, true, true, true, true, true] (hk128 _)
      · refine j_aload_n dX7_weighStrip_96 rfl rfl ?_
        refine j_getR fl_RX7_24 sh_83 rfl dX7_weighStrip_97 ?_
        refine j_iload dX7_weighStrip_100 rfl ?_
        refine j_aload_n dX7_weighStrip_102 rfl rfl ?_
        refine j_getR fl_RX7_24 sh_83 rfl dX7_weighStrip_103 ?_
        refine j_iload dX7_weighStrip_106 rfl ?_
        refine j_iald sh_88 dX7_weighStrip_108 (fun v13 => ?_)
        refine j_iload dX7_weighStrip_109 rfl ?_
        refine j_jn (fun k124 => ∀ (u14 : Int) (s15 : Mem), J K rmX7_weighStrip cX7_weighStrip RX7 8 124 [some (.inr (.inr 83)), some (.inl c1), some (.inl c2), some (.inl c3), some (.inl c4), some (.inl c5), some (.inl x6), some (.inl v7)] [.inl u14, .inl v13, .inl v7, .inr (.inr 88)] s15 (k124 u14 s15)) (fun u14 s15 => ?_) (fun k124 hk124 => ?_)
        · refine j_min mw_RX7_55 ⟨by decide, Nat.le_of_ble_eq_true rfl⟩ dX7_weighStrip_124 ?_
          refine j_iast sh_88 dX7_weighStrip_127 (fun s16 => ?_)
          exact j_msk [true, true, true, true, true, true, true, true] (hk128 _)
        refine j_if_eq (tgt := 123) dX7_weighStrip_111 rfl ?_ ?_
        · refine j_iconst dX7_weighStrip_123 (inr_d rfl) ?_
          exact j_msk [true, true, true, true, true, true, true, true] (hk124 _ _)
        · refine j_aload_n dX7_weighStrip_114 rfl rfl ?_
          refine j_getR fl_RX7_11 sh_83 rfl dX7_weighStrip_115 ?_
          refine j_iload_n dX7_weighStrip_118 rfl rfl ?_
          refine j_iald sh_84 dX7_weighStrip_119 (fun v17 => ?_)
          refine j_goto (tgt := 124) dX7_weighStrip_120 rfl ?_
          exact j_msk [true, true, true, true, true, true, true, true] (hk124 _ _)
set_option maxRecDepth 100000 in
set_option maxHeartbeats 4000000 in
theorem jLX7_weighStrip_42 {K : KT} (hq : KV K none) (c1 : Int) (c2 : Int) (c3 : Int) (k186 : Mem → Option Res) (hk186 : ∀ (s : Mem), J K rmX7_weighStrip cX7_weighStrip RX7 8 186 [none, none, none, none, none, none, none, none] [] s (k186 s)) : ∀ (n : Nat) (x4 : Int) (s : Mem), J K rmX7_weighStrip cX7_weighStrip RX7 8 42 [some (.inr (.inr 83)), some (.inl c1), some (.inl c2), some (.inl c3), some (.inl x4), none, none, none] [] s (LX7_weighStrip_42 c1 c2 c3 k186 n x4 s) := by
  intro n
  induction n with
  | zero => intros; exact J_none
  | succ n ih =>
    intro x4 s
    show J K _ _ _ _ _ _ _ _ (LX7_weighStrip_42 c1 c2 c3 k186 (n + 1) x4 s)
    simp only [LX7_weighStrip_42]
    refine j_iload dX7_weighStrip_42 rfl ?_
    refine j_iconst dX7_weighStrip_44 (inr_d rfl) ?_
    refine j_icmp_gt (tgt := 186) dX7_weighStrip_45 rfl ?_ ?_
    · exact j_msk [false, false, false, false, false, false, false, false] (hk186 _)
    · refine j_iload dX7_weighStrip_48 rfl ?_
      refine j_iconst dX7_weighStrip_50 (inr_d rfl) ?_
      refine j_icmp_eq (tgt := 65) dX7_weighStrip_51 rfl ?_ ?_
      · refine j_iconst dX7_weighStrip_65 (inr_d rfl) ?_
        refine j_goto (tgt := 70) dX7_weighStrip_66 rfl ?_
        refine j_istoreE (ls2 := [some (.inr (.inr 83)), some (.inl c1), some (.inl c2), some (.inl c3), some (.inl x4), some (.inl 1), none, none]) dX7_weighStrip_70 (by decide) rfl rfl ?_
        refine j_iconst dX7_weighStrip_72 (inr_d rfl) ?_
        refine j_istoreE (ls2 := [some (.inr (.inr 83)), some (.inl c1), some (.inl c2), some (.inl c3), some (.inl x4), some (.inl 1), some (.inl 1), none]) dX7_weighStrip_73 (by decide) rfl rfl ?_
        refine j_msk [true, true, true, true, true, true, true, false] (jLX7_weighStrip_75 hq _ _ _ _ _ _ (fun s18 => ?_) _ _ _)
        refine j_iincE (ls2 := [some (.inr (.inr 83)), some (.inl c1), some (.inl c2), some (.inl c3), some (.inl (wr (x4 + 1))), none, none, none]) dX7_weighStrip_180 rfl (by decide) rfl rfl ?_
        refine j_goto (tgt := 42) dX7_weighStrip_183 rfl ?_
        exact j_msk [true, true, true, true, true, false, false, false] (ih _ _)
      · refine j_iload dX7_weighStrip_54 rfl ?_
        refine j_aload_n dX7_weighStrip_56 rfl rfl ?_
        refine j_getR fl_RX7_15 sh_83 rfl dX7_weighStrip_57 ?_
        refine j_iload_n dX7_weighStrip_60 rfl rfl ?_
        refine j_iald sh_85 dX7_weighStrip_61 (fun v19 => ?_)
        refine j_icmp_ne (tgt := 69) dX7_weighStrip_62 rfl ?_ ?_
        · refine j_iconst dX7_weighStrip_69 (inr_d rfl) ?_
          refine j_istoreE (ls2 := [some (.inr (.inr 83)), some (.inl c1), some (.inl c2), some (.inl c3), some (.inl x4), some (.inl 0), none, none]) dX7_weighStrip_70 (by decide) rfl rfl ?_
          refine j_iconst dX7_weighStrip_72 (inr_d rfl) ?_
          refine j_istoreE (ls2 := [some (.inr (.inr 83)), some (.inl c1), some (.inl c2), some (.inl c3), some (.inl x4), some (.inl 0), some (.inl 1), none]) dX7_weighStrip_73 (by decide) rfl rfl ?_
          refine j_msk [true, true, true, true, true, true, true, false] (jLX7_weighStrip_75 hq _ _ _ _ _ _ (fun s20 => ?_) _ _ _)
          refine j_iincE (ls2 := [some (.inr (.inr 83)), some (.inl c1), some (.inl c2), some (.inl c3), some (.inl (wr (x4 + 1))), none, none, none]) dX7_weighStrip_180 rfl (by decide) rfl rfl ?_
          refine j_goto (tgt := 42) dX7_weighStrip_183 rfl ?_
          exact j_msk [true, true, true, true, true, false, false, false] (ih _ _)
        · refine j_iconst dX7_weighStrip_65 (inr_d rfl) ?_
          refine j_goto (tgt := 70) dX7_weighStrip_66 rfl ?_
          refine j_istoreE (ls2 := [some (.inr (.inr 83)), some (.inl c1), some (.inl c2), some (.inl c3), some (.inl x4), some (.inl 1), none, none]) dX7_weighStrip_70 (by decide) rfl rfl ?_
          refine j_iconst dX7_weighStrip_72 (inr_d rfl) ?_
          refine j_istoreE (ls2 := [some (.inr (.inr 83)), some (.inl c1), some (.inl c2), some (.inl c3), some (.inl x4), some (.inl 1), some (.inl 1), none]) dX7_weighStrip_73 (by decide) rfl rfl ?_
          refine j_msk [true, true, true, true, true, true, true, false] (jLX7_weighStrip_75 hq _ _ _ _ _ _ (fun s21 => ?_) _ _ _)
          refine j_iincE (ls2 := [some (.inr (.inr 83)), some (.inl c1), some (.inl c2), some (.inl c3), some (.inl (wr (x4 + 1))), none, none, none]) dX7_weighStrip_180 rfl (by decide) rfl rfl ?_
          refine j_goto (tgt := 42) dX7_weighStrip_183 rfl ?_
          exact j_msk [true, true, true, true, true, false, false, false] (ih _ _)
set_option maxRecDepth 100000 in
set_option maxHeartbeats 4000000 in
theorem mX7_weighStrip (l : Launch) (D : va_G) (ad : Nat → Nat) (cA : Nat → ClassId) (a1 : Int) (a2 : Int) (s0 : Mem) : MCv l D ad cA yX7_weighStrip cX7_weighStrip 8 none rmX7_weighStrip [.inr (.inr 83), .inl a1, .inl a2] s0 (fX7_weighStrip a1 a2 s0) := by
  refine MCv_ofE (own := RX7) (ls := [some (.inr (.inr 83)), some (.inl a1), some (.inl a2), none, none, none, none, none]) 5 (by decide +kernel) rfl rfl (fun _ => Nat.le_of_ble_eq_true rfl) (fun K hq => ?_)
  unfold fX7_weighStrip
  refine j_aload_n dX7_weighStrip_0 rfl rfl ?_
  refine j_getR fl_RX7_18 sh_83 rfl dX7_weighStrip_1 ?_
  refine j_iload_n dX7_weighStrip_4 rfl rfl ?_
  refine j_iald sh_86 dX7_weighStrip_5 (fun v1 => ?_)
  refine j_abs mw_RX7_49 ⟨by decide, Nat.le_of_ble_eq_true rfl⟩ dX7_weighStrip_6 ?_
  refine j_iload_n dX7_weighStrip_9 rfl rfl ?_
  refine j_jn (fun k18 => ∀ (u2 : Int) (s3 : Mem), J K rmX7_weighStrip cX7_weighStrip RX7 8 18 [some (.inr (.inr 83)), some (.inl a1), some (.inl a2), none, none, none, none, none] [.inl u2] s3 (k18 u2 s3)) (fun u2 s3 => ?_) (fun k18 hk18 => ?_)
  · refine j_istore_nE (ls2 := [some (.inr (.inr 83)), some (.inl a1), some (.inl a2), some (.inl u2), none, none, none, none]) dX7_weighStrip_18 rfl (by decide) rfl rfl ?_
    refine j_aload_n dX7_weighStrip_19 rfl rfl ?_
    refine j_aload_n dX7_weighStrip_20 rfl rfl ?_
    refine j_getI fl_RX7_31 sh_83 rfl dX7_weighStrip_21 ?_
    refine j_jn (fun k36 => ∀ (u4 : Int) (s5 : Mem), J K rmX7_weighStrip cX7_weighStrip RX7 8 36 [some (.inr (.inr 83)), some (.inl a1), some (.inl a2), some (.inl u2), none, none, none, none] [.inl u4, .inr (.inr 83)] s5 (k36 u4 s5)) (fun u4 s5 => ?_) (fun k36 hk36 => ?_)
    · refine j_putZ fp_RX7_31 sh_83 rfl dX7_weighStrip_36 (fun s6 => ?_)
      refine j_iconst dX7_weighStrip_39 (inr_d rfl) ?_
      refine j_istoreE (ls2 := [some (.inr (.inr 83)), some (.inl a1), some (.inl a2), some (.inl u2), some (.inl 0), none, none, none]) dX7_weighStrip_40 (by decide) rfl rfl ?_
      refine j_msk [true, true, true, true, true, false, false, false] (jLX7_weighStrip_42 hq _ _ _ _ (fun s22 => ?_) _ _ _)
      exact j_vret hq dX7_weighStrip_186
    refine j_if_eq (tgt := 35) dX7_weighStrip_24 rfl ?_ ?_
    · refine j_iconst dX7_weighStrip_35 (inr_d rfl) ?_
      exact j_msk [true, true, true, true, false, false, false, false] (hk36 _ _)
    · refine j_iload_n dX7_weighStrip_27 rfl rfl ?_
      refine j_if_eq (tgt := 35) dX7_weighStrip_28 rfl ?_ ?_
      · refine j_iconst dX7_weighStrip_35 (inr_d rfl) ?_
        exact j_msk [true, true, true, true, false, false, false, false] (hk36 _ _)
      · refine j_iconst dX7_weighStrip_31 (inr_d rfl) ?_
        refine j_goto (tgt := 36) dX7_weighStrip_32 rfl ?_
        exact j_msk [true, true, true, true, false, false, false, false] (hk36 _ _)
  refine j_icmp_gt (tgt := 17) dX7_weighStrip_10 rfl ?_ ?_
  · refine j_iconst dX7_weighStrip_17 (inr_d rfl) ?_
    exact j_msk [true, true, true, false, false, false, false, false] (hk18 _ _)
  · refine j_iconst dX7_weighStrip_13 (inr_d rfl) ?_
    refine j_goto (tgt := 18) dX7_weighStrip_14 rfl ?_
    exact j_msk [true, true, true, false, false, false, false, false] (hk18 _ _)
abbrev rmX7_weigh : Room := { frames := 2, cells := 0, slots := 0, locals := 48 }
theorem dX7_weigh_0 : decode cX7_weigh 0 = .ok (.aload_n 0, 1) := by decide +kernel
theorem dX7_weigh_1 : decode cX7_weigh 1 = .ok (.iconst 1, 1) := by decide +kernel
theorem dX7_weigh_2 : decode cX7_weigh 2 = .ok (.putfield 31, 3) := by decide +kernel
theorem dX7_weigh_5 : decode cX7_weigh 5 = .ok (.aload_n 0, 1) := by decide +kernel
theorem dX7_weigh_6 : decode cX7_weigh 6 = .ok (.getfield 21, 3) := by decide +kernel
theorem dX7_weigh_9 : decode cX7_weigh 9 = .ok (.iconst 0, 1) := by decide +kernel
theorem dX7_weigh_10 : decode cX7_weigh 10 = .ok (.invokestatic 35, 3) := by decide +kernel
theorem dX7_weigh_13 : decode cX7_weigh 13 = .ok (.aload_n 0, 1) := by decide +kernel
theorem dX7_weigh_14 : decode cX7_weigh 14 = .ok (.getfield 24, 3) := by decide +kernel
theorem dX7_weigh_17 : decode cX7_weigh 17 = .ok (.bipush 99, 2) := by decide +kernel
theorem dX7_weigh_19 : decode cX7_weigh 19 = .ok (.invokestatic 35, 3) := by decide +kernel
theorem dX7_weigh_22 : decode cX7_weigh 22 = .ok (.iconst 0, 1) := by decide +kernel
theorem dX7_weigh_23 : decode cX7_weigh 23 = .ok (.istore_n 2, 1) := by decide +kernel
theorem dX7_weigh_24 : decode cX7_weigh 24 = .ok (.iload_n 2, 1) := by decide +kernel
theorem dX7_weigh_25 : decode cX7_weigh 25 = .ok (.aload_n 0, 1) := by decide +kernel
theorem dX7_weigh_26 : decode cX7_weigh 26 = .ok (.getfield 27, 3) := by decide +kernel
theorem dX7_weigh_29 : decode cX7_weigh 29 = .ok (.if_icmp .ge 26, 3) := by decide +kernel
theorem dX7_weigh_32 : decode cX7_weigh 32 = .ok (.aload_n 0, 1) := by decide +kernel
theorem dX7_weigh_33 : decode cX7_weigh 33 = .ok (.getfield 18, 3) := by decide +kernel
theorem dX7_weigh_36 : decode cX7_weigh 36 = .ok (.iload_n 2, 1) := by decide +kernel
theorem dX7_weigh_37 : decode cX7_weigh 37 = .ok (.iaload, 1) := by decide +kernel
theorem dX7_weigh_38 : decode cX7_weigh 38 = .ok (.bipush 100, 2) := by decide +kernel
theorem dX7_weigh_40 : decode cX7_weigh 40 = .ok (.if_icmp .eq 9, 3) := by decide +kernel
theorem dX7_weigh_43 : decode cX7_weigh 43 = .ok (.aload_n 0, 1) := by decide +kernel
theorem dX7_weigh_44 : decode cX7_weigh 44 = .ok (.iload_n 2, 1) := by decide +kernel
theorem dX7_weigh_45 : decode cX7_weigh 45 = .ok (.iload_n 1, 1) := by decide +kernel
theorem dX7_weigh_46 : decode cX7_weigh 46 = .ok (.invokevirtual 41, 3) := by decide +kernel
theorem dX7_weigh_49 : decode cX7_weigh 49 = .ok (.iinc 2 1, 3) := by decide +kernel
theorem dX7_weigh_52 : decode cX7_weigh 52 = .ok (.goto (-28), 3) := by decide +kernel
theorem dX7_weigh_55 : decode cX7_weigh 55 = .ok (.return_, 1) := by decide +kernel
def LX7_weigh_24 (c1 : Int) (k55 : Mem → Option Res) : Nat → Int → Mem → Option Res
  | 0 => fun _ _ => none
  | n + 1 => fun x2 s => (if s 83 3 ≤ x2 then
 k55 s
 else
 rd (s 86) x2 20 (fun v6 =>
 (if v6 = 100 then
 LX7_weigh_24 c1 k55 n (wr (x2 + 1)) s
 else
 bnd (fX7_weighStrip x2 c1 s) (fun _ s8 =>
 LX7_weigh_24 c1 k55 n (wr (x2 + 1)) s8))))
def fX7_weigh (a1 : Int) (s0 : Mem) : Option Res :=
 zp 1 (lt (up s0 83 6 1) (fun s1 =>
 bnd (fJ7_fill_53178 87 20 0 s1) (fun _ s3 =>
 bnd (fJ7_fill_53178 88 20 99 s3) (fun _ s5 =>
 LX7_weigh_24 a1 (fun s9 =>
 some (0, s9)) FU 0 s5))))
set_option maxRecDepth 100000 in
set_option maxHeartbeats 4000000 in
theorem jLX7_weigh_24 {K : KT} (hq : KV K none) (c1 : Int) (k55 : Mem → Option Res) (hk55 : ∀ (s : Mem), J K rmX7_weigh cX7_weigh RX7 3 55 [none, none, none] [] s (k55 s)) : ∀ (n : Nat) (x2 : Int) (s : Mem), J K rmX7_weigh cX7_weigh RX7 3 24 [some (.inr (.inr 83)), some (.inl c1), some (.inl x2)] [] s (LX7_weigh_24 c1 k55 n x2 s) := by
  intro n
  induction n with
  | zero => intros; exact J_none
  | succ n ih =>
    intro x2 s
    show J K _ _ _ _ _ _ _ _ (LX7_weigh_24 c1 k55 (n + 1) x2 s)
    simp only [LX7_weigh_24]
    refine j_iload_n dX7_weigh_24 rfl rfl ?_
    refine j_aload_n dX7_weigh_25 rfl rfl ?_
    refine j_getI fl_RX7_27 sh_83 rfl dX7_weigh_26 ?_
    refine j_icmp_ge (tgt := 55) dX7_weigh_29 rfl ?_ ?_
    · exact j_msk [false, false, false] (hk55 _)
    · refine j_aload_n dX7_weigh_32 rfl rfl ?_
      refine j_getR fl_RX7_18 sh_83 rfl dX7_weigh_33 ?_
      refine j_iload_n dX7_weigh_36 rfl rfl ?_
      refine j_iald sh_86 dX7_weigh_37 (fun v6 => ?_)
      refine j_bipush (v := 100) dX7_weigh_38 (by decide +kernel) (inr_d rfl) ?_
      refine j_icmp_eq (tgt := 49) dX7_weigh_40 rfl ?_ ?_
      · refine j_iincE (ls2 := [some (.inr (.inr 83)), some (.inl c1), some (.inl (wr (x2 + 1)))]) dX7_weigh_49 rfl (by decide) rfl rfl ?_
        refine j_goto (tgt := 24) dX7_weigh_52 rfl ?_
        exact j_msk [true, true, true] (ih _ _)
      · refine j_aload_n dX7_weigh_43 rfl rfl ?_
        refine j_iload_n dX7_weigh_44 rfl rfl ?_
        refine j_iload_n dX7_weigh_45 rfl rfl ?_
        refine j_callVv (mX7_weighStrip (kl K) (kD K) (kad K) (kcA K) x2 c1 s) cw_RX7_41 sh_83 rfl ⟨rfl, rfl, by decide, by decide⟩ rfl rfl (Nat.le_of_ble_eq_true rfl) dX7_weigh_46 (fun _ s8 => ?_)
        refine j_iincE (ls2 := [some (.inr (.inr 83)), some (.inl c1), some (.inl (wr (x2 + 1)))]) dX7_weigh_49 rfl (by decide) rfl rfl ?_
        refine j_goto (tgt := 24) dX7_weigh_52 rfl ?_
        exact j_msk [true, true, true] (ih _ _)
set_option maxRecDepth 100000 in
set_option maxHeartbeats 4000000 in
theorem mX7_weigh (l : Launch) (D : va_G) (ad : Nat → Nat) (cA : Nat → ClassId) (a1 : Int) (s0 : Mem) : MCv l D ad cA yX7_weigh cX7_weigh 3 none rmX7_weigh [.inr (.inr 83), .inl a1] s0 (fX7_weigh a1 s0) := by
  refine MCv_ofE (own := RX7) (ls := [some (.inr (.inr 83)), some (.inl a1), none]) 1 (by decide +kernel) rfl rfl (fun _ => Nat.le_of_ble_eq_true rfl) (fun K hq => ?_)
  unfold fX7_weigh
  refine j_aload_n dX7_weigh_0 rfl rfl ?_
  refine j_iconst dX7_weigh_1 (inr_d rfl) ?_
  refine j_putZ fp_RX7_31 sh_83 rfl dX7_weigh_2 (fun s1 => ?_)
  refine j_aload_n dX7_weigh_5 rfl rfl ?_
  refine j_getR fl_RX7_21 sh_83 rfl dX7_weigh_6 ?_
  refine j_iconst dX7_weigh_9 (inr_d rfl) ?_
  refine j_callSv (mJ7_fill_53178 (kl K) (kD K) (kad K) (kcA K) 87 20 sh_87 (by decide) 0 s1) cw_RX7_35 ⟨rfl, rfl, by decide, by decide⟩ rfl rfl (Nat.le_of_ble_eq_true rfl) dX7_weigh_10 (fun _ s3 => ?_)
  refine j_aload_n dX7_weigh_13 rfl rfl ?_
  refine j_getR fl_RX7_24 sh_83 rfl dX7_weigh_14 ?_
  refine j_bipush (v := 99) dX7_weigh_17 (by decide +kernel) (inr_d rfl) ?_
  refine j_callSv (mJ7_fill_53178 (kl K) (kD K) (kad K) (kcA K) 88 20 sh_88 (by decide) 99 s3) cw_RX7_35 ⟨rfl, rfl, by decide, by decide⟩ rfl rfl (Nat.le_of_ble_eq_true rfl) dX7_weigh_19 (fun _ s5 => ?_)
  refine j_iconst dX7_weigh_22 (inr_d rfl) ?_
  refine j_istore_nE (ls2 := [some (.inr (.inr 83)), some (.inl a1), some (.inl 0)]) dX7_weigh_23 rfl (by decide) rfl rfl ?_
  refine j_msk [true, true, true] (jLX7_weigh_24 hq _ _ (fun s9 => ?_) _ _ _)
  exact j_vret hq dX7_weigh_55
abbrev rmX7_explains : Room := { frames := 0, cells := 0, slots := 0, locals := 0 }
theorem dX7_explains_0 : decode cX7_explains 0 = .ok (.iload_n 1, 1) := by decide +kernel
theorem dX7_explains_1 : decode cX7_explains 1 = .ok (.ifCond .ne 8, 3) := by decide +kernel
theorem dX7_explains_4 : decode cX7_explains 4 = .ok (.aload_n 0, 1) := by decide +kernel
theorem dX7_explains_5 : decode cX7_explains 5 = .ok (.getfield 31, 3) := by decide +kernel
theorem dX7_explains_8 : decode cX7_explains 8 = .ok (.ireturn, 1) := by decide +kernel
theorem dX7_explains_9 : decode cX7_explains 9 = .ok (.iload_n 1, 1) := by decide +kernel
theorem dX7_explains_10 : decode cX7_explains 10 = .ok (.sipush 1501, 3) := by decide +kernel
theorem dX7_explains_13 : decode cX7_explains 13 = .ok (.if_icmp .lt 7, 3) := by decide +kernel
theorem dX7_explains_16 : decode cX7_explains 16 = .ok (.iconst 1, 1) := by decide +kernel
theorem dX7_explains_17 : decode cX7_explains 17 = .ok (.goto 4, 3) := by decide +kernel
theorem dX7_explains_20 : decode cX7_explains 20 = .ok (.iconst 0, 1) := by decide +kernel
theorem dX7_explains_21 : decode cX7_explains 21 = .ok (.istore_n 2, 1) := by decide +kernel
theorem dX7_explains_22 : decode cX7_explains 22 = .ok (.iload_n 1, 1) := by decide +kernel
theorem dX7_explains_23 : decode cX7_explains 23 = .ok (.iload_n 2, 1) := by decide +kernel
theorem dX7_explains_24 : decode cX7_explains 24 = .ok (.ifCond .eq 9, 3) := by decide +kernel
theorem dX7_explains_27 : decode cX7_explains 27 = .ok (.sipush 1501, 3) := by decide +kernel
theorem dX7_explains_30 : decode cX7_explains 30 = .ok (.goto 4, 3) := by decide +kernel
theorem dX7_explains_33 : decode cX7_explains 33 = .ok (.iconst 1, 1) := by decide +kernel
theorem dX7_explains_34 : decode cX7_explains 34 = .ok (.isub, 1) := by decide +kernel
theorem dX7_explains_35 : decode cX7_explains 35 = .ok (.istore_n 3, 1) := by decide +kernel
theorem dX7_explains_36 : decode cX7_explains 36 = .ok (.iload_n 3, 1) := by decide +kernel
theorem dX7_explains_37 : decode cX7_explains 37 = .ok (.iconst 5, 1) := by decide +kernel
theorem dX7_explains_38 : decode cX7_explains 38 = .ok (.irem, 1) := by decide +kernel
theorem dX7_explains_39 : decode cX7_explains 39 = .ok (.istore 4, 2) := by decide +kernel
theorem dX7_explains_41 : decode cX7_explains 41 = .ok (.iload_n 3, 1) := by decide +kernel
theorem dX7_explains_42 : decode cX7_explains 42 = .ok (.iconst 5, 1) := by decide +kernel
theorem dX7_explains_43 : decode cX7_explains 43 = .ok (.idiv, 1) := by decide +kernel
theorem dX7_explains_44 : decode cX7_explains 44 = .ok (.istore 5, 2) := by decide +kernel
theorem dX7_explains_46 : decode cX7_explains 46 = .ok (.iload_n 2, 1) := by decide +kernel
theorem dX7_explains_47 : decode cX7_explains 47 = .ok (.ifCond .eq 7, 3) := by decide +kernel
theorem dX7_explains_50 : decode cX7_explains 50 = .ok (.iconst 3, 1) := by decide +kernel
theorem dX7_explains_51 : decode cX7_explains 51 = .ok (.goto 7, 3) := by decide +kernel
theorem dX7_explains_54 : decode cX7_explains 54 = .ok (.iload 5, 2) := by decide +kernel
theorem dX7_explains_56 : decode cX7_explains 56 = .ok (.iconst 3, 1) := by decide +kernel
theorem dX7_explains_57 : decode cX7_explains 57 = .ok (.irem, 1) := by decide +kernel
theorem dX7_explains_58 : decode cX7_explains 58 = .ok (.istore 6, 2) := by decide +kernel
theorem dX7_explains_60 : decode cX7_explains 60 = .ok (.iload_n 2, 1) := by decide +kernel
theorem dX7_explains_61 : decode cX7_explains 61 = .ok (.ifCond .eq 8, 3) := by decide +kernel
theorem dX7_explains_64 : decode cX7_explains 64 = .ok (.iload 5, 2) := by decide +kernel
theorem dX7_explains_66 : decode cX7_explains 66 = .ok (.goto 7, 3) := by decide +kernel
theorem dX7_explains_69 : decode cX7_explains 69 = .ok (.iload 5, 2) := by decide +kernel
theorem dX7_explains_71 : decode cX7_explains 71 = .ok (.iconst 3, 1) := by decide +kernel
theorem dX7_explains_72 : decode cX7_explains 72 = .ok (.idiv, 1) := by decide +kernel
theorem dX7_explains_73 : decode cX7_explains 73 = .ok (.istore 7, 2) := by decide +kernel
theorem dX7_explains_75 : decode cX7_explains 75 = .ok (.iload 7, 2) := by decide +kernel
theorem dX7_explains_77 : decode cX7_explains 77 = .ok (.aload_n 0, 1) := by decide +kernel
theorem dX7_explains_78 : decode cX7_explains 78 = .ok (.getfield 21, 3) := by decide +kernel
theorem dX7_explains_81 : decode cX7_explains 81 = .ok (.iload 6, 2) := by decide +kernel
theorem dX7_explains_83 : decode cX7_explains 83 = .ok (.iconst 5, 1) := by decide +kernel
theorem dX7_explains_84 : decode cX7_explains 84 = .ok (.imul, 1) := by decide +kernel
theorem dX7_explains_85 : decode cX7_explains 85 = .ok (.iload 4, 2) := by decide +kernel
theorem dX7_explains_87 : decode cX7_explains 87 = .ok (.iadd, 1) := by decide +kernel
theorem dX7_explains_88 : decode cX7_explains 88 = .ok (.iaload, 1) := by decide +kernel
theorem dX7_explains_89 : decode cX7_explains 89 = .ok (.if_icmp .lt 24, 3) := by decide +kernel
theorem dX7_explains_92 : decode cX7_explains 92 = .ok (.iload 7, 2) := by decide +kernel
theorem dX7_explains_94 : decode cX7_explains 94 = .ok (.aload_n 0, 1) := by decide +kernel
theorem dX7_explains_95 : decode cX7_explains 95 = .ok (.getfield 24, 3) := by decide +kernel
theorem dX7_explains_98 : decode cX7_explains 98 = .ok (.iload 6, 2) := by decide +kernel
theorem dX7_explains_100 : decode cX7_explains 100 = .ok (.iconst 5, 1) := by decide +kernel
theorem dX7_explains_101 : decode cX7_explains 101 = .ok (.imul, 1) := by decide +kernel
theorem dX7_explains_102 : decode cX7_explains 102 = .ok (.iload 4, 2) := by decide +kernel
theorem dX7_explains_104 : decode cX7_explains 104 = .ok (.iadd, 1) := by decide +kernel
theorem dX7_explains_105 : decode cX7_explains 105 = .ok (.iaload, 1) := by decide +kernel
theorem dX7_explains_106 : decode cX7_explains 106 = .ok (.if_icmp .gt 7, 3) := by decide +kernel
theorem dX7_explains_109 : decode cX7_explains 109 = .ok (.iconst 1, 1) := by decide +kernel
theorem dX7_explains_110 : decode cX7_explains 110 = .ok (.goto 4, 3) := by decide +kernel
theorem dX7_explains_113 : decode cX7_explains 113 = .ok (.iconst 0, 1) := by decide +kernel
theorem dX7_explains_114 : decode cX7_explains 114 = .ok (.ireturn, 1) := by decide +kernel
def fX7_explains (a1 : Int) (s0 : Mem) : Option Res :=
 (if a1 ≠ 0 then
 jn (fun (u1 : Int) (s2 : Mem) =>
 jn (fun (u3 : Int) (s4 : Mem) =>
 lt (wr (a1 - u3)) (fun v5 =>
 lt (Int.tmod v5 5) (fun v6 =>
 lt (Int.tdiv v5 5) (fun v7 =>
 jn (fun (u8 : Int) (s9 : Mem) =>
 jn (fun (u10 : Int) (s11 : Mem) =>
 rd (s11 87) (wr ((wr (u8 * 5)) + v6)) 20 (fun v12 =>
 (if u10 < v12 then
 zr 0 s11
 else
 rd (s11 88) (wr ((wr (u8 * 5)) + v6)) 20 (fun v13 =>
 (if v13 < u10 then
 zr 0 s11
 else
 zr 1 s11))))) (fun k73 =>
 (if u1 = 0 then
 k73 (Int.tdiv v7 3) s9
 else
 k73 v7 s9))) (fun k58 =>
 (if u1 = 0 then
 k58 (Int.tmod v7 3) s4
 else
 k58 3 s4)))))) (fun k34 =>
 (if u1 = 0 then
 k34 1 s2
 else
 k34 1501 s2))) (fun k21 =>
 (if a1 < 1501 then
 k21 0 s0
 else
 k21 1 s0))
 else
 zr (s0 83 6) s0)
set_option maxRecDepth 100000 in
set_option maxHeartbeats 4000000 in
theorem mX7_explains (l : Launch) (D : va_G) (ad : Nat → Nat) (cA : Nat → ClassId) (a1 : Int) (s0 : Mem) : MCi l D ad cA yX7_explains cX7_explains 8 (some .boolean) rmX7_explains [.inr (.inr 83), .inl a1] s0 (fX7_explains a1 s0) := by
  refine MCi_ofE (own := RX7) (ls := [some (.inr (.inr 83)), some (.inl a1), none, none, none, none, none, none]) 6 (by decide +kernel) rfl rfl (fun _ => Nat.le_of_ble_eq_true rfl) (fun K hq => ?_)
  unfold fX7_explains
  refine j_iload_n dX7_explains_0 rfl rfl ?_
  refine j_if_ne (tgt := 9) dX7_explains_1 rfl ?_ ?_
  · refine j_iload_n dX7_explains_9 rfl rfl ?_
    refine j_sipush (v := 1501) dX7_explains_10 (by decide +kernel) (inr_d rfl) ?_
    refine j_jn (fun k21 => ∀ (u1 : Int) (s2 : Mem), J K rmX7_explains cX7_explains RX7 8 21 [some (.inr (.inr 83)), some (.inl a1), none, none, none, none, none, none] [.inl u1] s2 (k21 u1 s2)) (fun u1 s2 => ?_) (fun k21 hk21 => ?_)
    · refine j_istore_nE (ls2 := [some (.inr (.inr 83)), some (.inl a1), some (.inl u1), none, none, none, none, none]) dX7_explains_21 rfl (by decide) rfl rfl ?_
      refine j_iload_n dX7_explains_22 rfl rfl ?_
      refine j_iload_n dX7_explains_23 rfl rfl ?_
      refine j_jn (fun k34 => ∀ (u3 : Int) (s4 : Mem), J K rmX7_explains cX7_explains RX7 8 34 [some (.inr (.inr 83)), none, some (.inl u1), none, none, none, none, none] [.inl u3, .inl a1] s4 (k34 u3 s4)) (fun u3 s4 => ?_) (fun k34 hk34 => ?_)
      · refine j_isub dX7_explains_34 ?_
        refine j_ltv (fun v5 => ?_)
        refine j_istore_nE (ls2 := [some (.inr (.inr 83)), none, some (.inl u1), some (.inl v5), none, none, none, none]) dX7_explains_35 rfl (by decide) rfl rfl ?_
        refine j_iload_n dX7_explains_36 rfl rfl ?_
        refine j_iconst dX7_explains_37 (inr_d rfl) ?_
        refine j_irem_p dX7_explains_38 (by decide) ?_
        refine j_ltv (fun v6 => ?_)
        refine j_istoreE (ls2 := [some (.inr (.inr 83)), none, some (.inl u1), some (.inl v5), some (.inl v6), none, none, none]) dX7_explains_39 (by decide) rfl rfl ?_
        refine j_iload_n dX7_explains_41 rfl rfl ?_
        refine j_iconst dX7_explains_42 (inr_d rfl) ?_
        refine j_idiv_p dX7_explains_43 (by decide) ?_
        refine j_ltv (fun v7 => ?_)
        refine j_istoreE (ls2 := [some (.inr (.inr 83)), none, some (.inl u1), some (.inl v5), some (.inl v6), some (.inl v7), none, none]) dX7_explains_44 (by decide) rfl rfl ?_
        refine j_iload_n dX7_explains_46 rfl rfl ?_
        refine j_jn (fun k58 => ∀ (u8 : Int) (s9 : Mem), J K rmX7_explains cX7_explains RX7 8 58 [some (.inr (.inr 83)), none, some (.inl u1), none, some (.inl v6), some (.inl v7), none, none] [.inl u8] s9 (k58 u8 s9)) (fun u8 s9 => ?_) (fun k58 hk58 => ?_)
        · refine j_istoreE (ls2 := [some (.inr (.inr 83)), none, some (.inl u1), none, some (.inl v6), some (.inl v7), some (.inl u8), none]) dX7_explains_58 (by decide) rfl rfl ?_
          refine j_iload_n dX7_explains_60 rfl rfl ?_
          refine j_jn (fun k73 => ∀ (u10 : Int) (s11 : Mem), J K rmX7_explains cX7_explains RX7 8 73 [some (.inr (.inr 83)), none, none, none, some (.inl v6), none, some (.inl u8), none] [.inl u10] s11 (k73 u10 s11)) (fun u10 s11 => ?_) (fun k73 hk73 => ?_)
          · refine j_istoreE (ls2 := [some (.inr (.inr 83)), none, none, none, some (.inl v6), none, some (.inl u8), some (.inl u10)]) dX7_explains_73 (by decide) rfl rfl ?_
            refine j_iload dX7_explains_75 rfl ?_
            refine j_aload_n dX7_explains_77 rfl rfl ?_
            refine j_getR fl_RX7_21 sh_83 rfl dX7_explains_78 ?_
            refine j_iload dX7_explains_81 rfl ?_
            refine j_iconst dX7_explains_83 (inr_d rfl) ?_
            refine j_imul dX7_explains_84 ?_
            refine j_iload dX7_explains_85 rfl ?_
            refine j_iadd dX7_explains_87 ?_
            refine j_iald sh_87 dX7_explains_88 (fun v12 => ?_)
            refine j_icmp_lt (tgt := 113) dX7_explains_89 rfl ?_ ?_
            · refine j_iconst dX7_explains_113 (inr_d rfl) ?_
              exact j_zret hq dX7_explains_114
            · refine j_iload dX7_explains_92 rfl ?_
              refine j_aload_n dX7_explains_94 rfl rfl ?_
              refine j_getR fl_RX7_24 sh_83 rfl dX7_explains_95 ?_
              refine j_iload dX7_explains_98 rfl ?_
              refine j_iconst dX7_explains_100 (inr_d rfl) ?_
              refine j_imul dX7_explains_101 ?_
              refine j_iload dX7_explains_102 rfl ?_
              refine j_iadd dX7_explains_104 ?_
              refine j_iald sh_88 dX7_explains_105 (fun v13 => ?_)
              refine j_icmp_gt (tgt := 113) dX7_explains_106 rfl ?_ ?_
              · refine j_iconst dX7_explains_113 (inr_d rfl) ?_
                exact j_zret hq dX7_explains_114
              · refine j_iconst dX7_explains_109 (inr_d rfl) ?_
                refine j_goto (tgt := 114) dX7_explains_110 rfl ?_
                exact j_zret hq dX7_explains_114
          refine j_if_eq (tgt := 69) dX7_explains_61 rfl ?_ ?_
          · refine j_iload dX7_explains_69 rfl ?_
            refine j_iconst dX7_explains_71 (inr_d rfl) ?_
            refine j_idiv_p dX7_explains_72 (by decide) ?_
            exact j_msk [true, false, false, false, true, false, true, false] (hk73 _ _)
          · refine j_iload dX7_explains_64 rfl ?_
            refine j_goto (tgt := 73) dX7_explains_66 rfl ?_
            exact j_msk [true, false, false, false, true, false, true, false] (hk73 _ _)
        refine j_if_eq (tgt := 54) dX7_explains_47 rfl ?_ ?_
        · refine j_iload dX7_explains_54 rfl ?_
          refine j_iconst dX7_explains_56 (inr_d rfl) ?_
          refine j_irem_p dX7_explains_57 (by decide) ?_
          exact j_msk [true, false, true, false, true, true, false, false] (hk58 _ _)
        · refine j_iconst dX7_explains_50 (inr_d rfl) ?_
          refine j_goto (tgt := 58) dX7_explains_51 rfl ?_
          exact j_msk [true, false, true, false, true, true, false, false] (hk58 _ _)
      refine j_if_eq (tgt := 33) dX7_explains_24 rfl ?_ ?_
      · refine j_iconst dX7_explains_33 (inr_d rfl) ?_
        exact j_msk [true, false, true, false, false, false, false, false] (hk34 _ _)
      · refine j_sipush (v := 1501) dX7_explains_27 (by decide +kernel) (inr_d rfl) ?_
        refine j_goto (tgt := 34) dX7_explains_30 rfl ?_
        exact j_msk [true, false, true, false, false, false, false, false] (hk34 _ _)
    refine j_icmp_lt (tgt := 20) dX7_explains_13 rfl ?_ ?_
    · refine j_iconst dX7_explains_20 (inr_d rfl) ?_
      exact j_msk [true, true, false, false, false, false, false, false] (hk21 _ _)
    · refine j_iconst dX7_explains_16 (inr_d rfl) ?_
      refine j_goto (tgt := 21) dX7_explains_17 rfl ?_
      exact j_msk [true, true, false, false, false, false, false, false] (hk21 _ _)
  · refine j_aload_n dX7_explains_4 rfl rfl ?_
    refine j_getI fl_RX7_31 sh_83 rfl dX7_explains_5 ?_
    exact j_zret hq dX7_explains_8
abbrev rmX7_countDrifts : Room := { frames := 1, cells := 0, slots := 0, locals := 27 }
theorem dX7_countDrifts_0 : decode cX7_countDrifts 0 = .ok (.iconst 0, 1) := by decide +kernel
theorem dX7_countDrifts_1 : decode cX7_countDrifts 1 = .ok (.istore_n 1, 1) := by decide +kernel
theorem dX7_countDrifts_2 : decode cX7_countDrifts 2 = .ok (.iconst 0, 1) := by decide +kernel
theorem dX7_countDrifts_3 : decode cX7_countDrifts 3 = .ok (.istore_n 2, 1) := by decide +kernel
theorem dX7_countDrifts_4 : decode cX7_countDrifts 4 = .ok (.iload_n 2, 1) := by decide +kernel
theorem dX7_countDrifts_5 : decode cX7_countDrifts 5 = .ok (.sipush 2000, 3) := by decide +kernel
theorem dX7_countDrifts_8 : decode cX7_countDrifts 8 = .ok (.if_icmp .gt 20, 3) := by decide +kernel
theorem dX7_countDrifts_11 : decode cX7_countDrifts 11 = .ok (.aload_n 0, 1) := by decide +kernel
theorem dX7_countDrifts_12 : decode cX7_countDrifts 12 = .ok (.iload_n 2, 1) := by decide +kernel
theorem dX7_countDrifts_13 : decode cX7_countDrifts 13 = .ok (.invokevirtual 45, 3) := by decide +kernel
theorem dX7_countDrifts_16 : decode cX7_countDrifts 16 = .ok (.ifCond .eq 6, 3) := by decide +kernel
theorem dX7_countDrifts_19 : decode cX7_countDrifts 19 = .ok (.iinc 1 1, 3) := by decide +kernel
theorem dX7_countDrifts_22 : decode cX7_countDrifts 22 = .ok (.iinc 2 1, 3) := by decide +kernel
theorem dX7_countDrifts_25 : decode cX7_countDrifts 25 = .ok (.goto (-21), 3) := by decide +kernel
theorem dX7_countDrifts_28 : decode cX7_countDrifts 28 = .ok (.iload_n 1, 1) := by decide +kernel
theorem dX7_countDrifts_29 : decode cX7_countDrifts 29 = .ok (.ireturn, 1) := by decide +kernel
def LX7_countDrifts_4 (k28 : Int → Mem → Option Res) : Nat → Int → Int → Mem → Option Res
  | 0 => fun _ _ _ => none
  | n + 1 => fun x1 x2 s => (if 2000 < x2 then
 k28 x1 s
 else
 bnd (fX7_explains x2 s) (fun r1 s2 =>
 (if r1 = 0 then
 LX7_countDrifts_4 k28 n x1 (wr (x2 + 1)) s2
 else
 LX7_countDrifts_4 k28 n (wr (x1 + 1)) (wr (x2 + 1)) s2)))
def fX7_countDrifts (s0 : Mem) : Option Res :=
 LX7_countDrifts_4 (fun y4 s3 =>
 some (y4, s3)) FU 0 0 s0
set_option maxRecDepth 100000 in
set_option maxHeartbeats 4000000 in
theorem jLX7_countDrifts_4 {K : KT} (hq : KI K (some .int)) (k28 : Int → Mem → Option Res) (hk28 : ∀ (y1 : Int) (s : Mem), J K rmX7_countDrifts cX7_countDrifts RX7 3 28 [none, some (.inl y1), none] [] s (k28 y1 s)) : ∀ (n : Nat) (x1 : Int) (x2 : Int) (s : Mem), J K rmX7_countDrifts cX7_countDrifts RX7 3 4 [some (.inr (.inr 83)), some (.inl x1), some (.inl x2)] [] s (LX7_countDrifts_4 k28 n x1 x2 s) := by
  intro n
  induction n with
  | zero => intros; exact J_none
  | succ n ih =>
    intro x1 x2 s
    show J K _ _ _ _ _ _ _ _ (LX7_countDrifts_4 k28 (n + 1) x1 x2 s)
    simp only [LX7_countDrifts_4]
    refine j_iload_n dX7_countDrifts_4 rfl rfl ?_
    refine j_sipush (v := 2000) dX7_countDrifts_5 (by decide +kernel) (inr_d rfl) ?_
    refine j_icmp_gt (tgt := 28) dX7_countDrifts_8 rfl ?_ ?_
    · exact j_msk [false, true, false] (hk28 _ _)
    · refine j_aload_n dX7_countDrifts_11 rfl rfl ?_
      refine j_iload_n dX7_countDrifts_12 rfl rfl ?_
      refine j_callVi (mX7_explains (kl K) (kD K) (kad K) (kcA K) x2 s) cw_RX7_45 sh_83 rfl ⟨rfl, rfl, by decide, by decide⟩ rfl rfl (Nat.le_of_ble_eq_true rfl) dX7_countDrifts_13 (fun r1 s2 => ?_)
      refine j_if_eq (tgt := 22) dX7_countDrifts_16 rfl ?_ ?_
      · refine j_iincE (ls2 := [some (.inr (.inr 83)), some (.inl x1), some (.inl (wr (x2 + 1)))]) dX7_countDrifts_22 rfl (by decide) rfl rfl ?_
        refine j_goto (tgt := 4) dX7_countDrifts_25 rfl ?_
        exact j_msk [true, true, true] (ih _ _ _)
      · refine j_iincE (ls2 := [some (.inr (.inr 83)), some (.inl (wr (x1 + 1))), some (.inl x2)]) dX7_countDrifts_19 rfl (by decide) rfl rfl ?_
        refine j_iincE (ls2 := [some (.inr (.inr 83)), some (.inl (wr (x1 + 1))), some (.inl (wr (x2 + 1)))]) dX7_countDrifts_22 rfl (by decide) rfl rfl ?_
        refine j_goto (tgt := 4) dX7_countDrifts_25 rfl ?_
        exact j_msk [true, true, true] (ih _ _ _)
set_option maxRecDepth 100000 in
set_option maxHeartbeats 4000000 in
theorem mX7_countDrifts (l : Launch) (D : va_G) (ad : Nat → Nat) (cA : Nat → ClassId) (s0 : Mem) : MCi l D ad cA yX7_countDrifts cX7_countDrifts 3 (some .int) rmX7_countDrifts [.inr (.inr 83)] s0 (fX7_countDrifts s0) := by
  refine MCi_ofE (own := RX7) (ls := [some (.inr (.inr 83)), none, none]) 2 (by decide +kernel) rfl rfl (fun _ => Nat.le_of_ble_eq_true rfl) (fun K hq => ?_)
  unfold fX7_countDrifts
  refine j_iconst dX7_countDrifts_0 (inr_d rfl) ?_
  refine j_istore_nE (ls2 := [some (.inr (.inr 83)), some (.inl 0), none]) dX7_countDrifts_1 rfl (by decide) rfl rfl ?_
  refine j_iconst dX7_countDrifts_2 (inr_d rfl) ?_
  refine j_istore_nE (ls2 := [some (.inr (.inr 83)), some (.inl 0), some (.inl 0)]) dX7_countDrifts_3 rfl (by decide) rfl rfl ?_
  refine j_msk [true, true, true] (jLX7_countDrifts_4 hq _ (fun y4 s3 => ?_) _ _ _ _)
  refine j_iload_n dX7_countDrifts_28 rfl rfl ?_
  exact j_iret hq dX7_countDrifts_29
abbrev rmX7_driftNumber : Room := { frames := 1, cells := 0, slots := 0, locals := 27 }
theorem dX7_driftNumber_0 : decode cX7_driftNumber 0 = .ok (.iconst 0, 1) := by decide +kernel
theorem dX7_driftNumber_1 : decode cX7_driftNumber 1 = .ok (.istore_n 2, 1) := by decide +kernel
theorem dX7_driftNumber_2 : decode cX7_driftNumber 2 = .ok (.iconst 0, 1) := by decide +kernel
theorem dX7_driftNumber_3 : decode cX7_driftNumber 3 = .ok (.istore_n 3, 1) := by decide +kernel
theorem dX7_driftNumber_4 : decode cX7_driftNumber 4 = .ok (.iload_n 3, 1) := by decide +kernel
theorem dX7_driftNumber_5 : decode cX7_driftNumber 5 = .ok (.sipush 2000, 3) := by decide +kernel
theorem dX7_driftNumber_8 : decode cX7_driftNumber 8 = .ok (.if_icmp .gt 27, 3) := by decide +kernel
theorem dX7_driftNumber_11 : decode cX7_driftNumber 11 = .ok (.aload_n 0, 1) := by decide +kernel
theorem dX7_driftNumber_12 : decode cX7_driftNumber 12 = .ok (.iload_n 3, 1) := by decide +kernel
theorem dX7_driftNumber_13 : decode cX7_driftNumber 13 = .ok (.invokevirtual 45, 3) := by decide +kernel
theorem dX7_driftNumber_16 : decode cX7_driftNumber 16 = .ok (.ifCond .eq 13, 3) := by decide +kernel
theorem dX7_driftNumber_19 : decode cX7_driftNumber 19 = .ok (.iload_n 2, 1) := by decide +kernel
theorem dX7_driftNumber_20 : decode cX7_driftNumber 20 = .ok (.iload_n 1, 1) := by decide +kernel
theorem dX7_driftNumber_21 : decode cX7_driftNumber 21 = .ok (.if_icmp .ne 5, 3) := by decide +kernel
theorem dX7_driftNumber_24 : decode cX7_driftNumber 24 = .ok (.iload_n 3, 1) := by decide +kernel
theorem dX7_driftNumber_25 : decode cX7_driftNumber 25 = .ok (.ireturn, 1) := by decide +kernel
theorem dX7_driftNumber_26 : decode cX7_driftNumber 26 = .ok (.iinc 2 1, 3) := by decide +kernel
theorem dX7_driftNumber_29 : decode cX7_driftNumber 29 = .ok (.iinc 3 1, 3) := by decide +kernel
theorem dX7_driftNumber_32 : decode cX7_driftNumber 32 = .ok (.goto (-28), 3) := by decide +kernel
theorem dX7_driftNumber_35 : decode cX7_driftNumber 35 = .ok (.bipush (-4), 2) := by decide +kernel
theorem dX7_driftNumber_37 : decode cX7_driftNumber 37 = .ok (.ireturn, 1) := by decide +kernel
def LX7_driftNumber_4 (c1 : Int) (k35 : Mem → Option Res) : Nat → Int → Int → Mem → Option Res
  | 0 => fun _ _ _ => none
  | n + 1 => fun x2 x3 s => (if 2000 < x3 then
 k35 s
 else
 bnd (fX7_explains x3 s) (fun r1 s2 =>
 (if r1 = 0 then
 LX7_driftNumber_4 c1 k35 n x2 (wr (x3 + 1)) s2
 else
 (if x2 ≠ c1 then
 LX7_driftNumber_4 c1 k35 n (wr (x2 + 1)) (wr (x3 + 1)) s2
 else
 some (x3, s2)))))
def fX7_driftNumber (a1 : Int) (s0 : Mem) : Option Res :=
 LX7_driftNumber_4 a1 (fun s3 =>
 some ((-4), s3)) FU 0 0 s0
set_option maxRecDepth 100000 in
set_option maxHeartbeats 4000000 in
theorem jLX7_driftNumber_4 {K : KT} (hq : KI K (some .int)) (c1 : Int) (k35 : Mem → Option Res) (hk35 : ∀ (s : Mem), J K rmX7_driftNumber cX7_driftNumber RX7 4 35 [none, none, none, none] [] s (k35 s)) : ∀ (n : Nat) (x2 : Int) (x3 : Int) (s : Mem), J K rmX7_driftNumber cX7_driftNumber RX7 4 4 [some (.inr (.inr 83)), some (.inl c1), some (.inl x2), some (.inl x3)] [] s (LX7_driftNumber_4 c1 k35 n x2 x3 s) := by
  intro n
  induction n with
  | zero => intros; exact J_none
  | succ n ih =>
    intro x2 x3 s
    show J K _ _ _ _ _ _ _ _ (LX7_driftNumber_4 c1 k35 (n + 1) x2 x3 s)
    simp only [LX7_driftNumber_4]
    refine j_iload_n dX7_driftNumber_4 rfl rfl ?_
    refine j_sipush (v := 2000) dX7_driftNumber_5 (by decide +kernel) (inr_d rfl) ?_
    refine j_icmp_gt (tgt := 35) dX7_driftNumber_8 rfl ?_ ?_
    · exact j_msk [false, false, false, false] (hk35 _)
    · refine j_aload_n dX7_driftNumber_11 rfl rfl ?_
      refine j_iload_n dX7_driftNumber_12 rfl rfl ?_
      refine j_callVi (mX7_explains (kl K) (kD K) (kad K) (kcA K) x3 s) cw_RX7_45 sh_83 rfl ⟨rfl, rfl, by decide, by decide⟩ rfl rfl (Nat.le_of_ble_eq_true rfl) dX7_driftNumber_13 (fun r1 s2 => ?_)
      refine j_if_eq (tgt := 29) dX7_driftNumber_16 rfl ?_ ?_
      · refine j_iincE (ls2 := [some (.inr (.inr 83)), some (.inl c1), some (.inl x2), some (.inl (wr (x3 + 1)))]) dX7_driftNumber_29 rfl (by decide) rfl rfl ?_
        refine j_goto (tgt := 4) dX7_driftNumber_32 rfl ?_
        exact j_msk [true, true, true, true] (ih _ _ _)
      · refine j_iload_n dX7_driftNumber_19 rfl rfl ?_
        refine j_iload_n dX7_driftNumber_20 rfl rfl ?_
        refine j_icmp_ne (tgt := 26) dX7_driftNumber_21 rfl ?_ ?_
        · refine j_iincE (ls2 := [some (.inr (.inr 83)), some (.inl c1), some (.inl (wr (x2 + 1))), some (.inl x3)]) dX7_driftNumber_26 rfl (by decide) rfl rfl ?_
          refine j_iincE (ls2 := [some (.inr (.inr 83)), some (.inl c1), some (.inl (wr (x2 + 1))), some (.inl (wr (x3 + 1)))]) dX7_driftNumber_29 rfl (by decide) rfl rfl ?_
          refine j_goto (tgt := 4) dX7_driftNumber_32 rfl ?_
          exact j_msk [true, true, true, true] (ih _ _ _)
        · refine j_iload_n dX7_driftNumber_24 rfl rfl ?_
          exact j_iret hq dX7_driftNumber_25
set_option maxRecDepth 100000 in
set_option maxHeartbeats 4000000 in
theorem mX7_driftNumber (l : Launch) (D : va_G) (ad : Nat → Nat) (cA : Nat → ClassId) (a1 : Int) (s0 : Mem) : MCi l D ad cA yX7_driftNumber cX7_driftNumber 4 (some .int) rmX7_driftNumber [.inr (.inr 83), .inl a1] s0 (fX7_driftNumber a1 s0) := by
  refine MCi_ofE (own := RX7) (ls := [some (.inr (.inr 83)), some (.inl a1), none, none]) 2 (by decide +kernel) rfl rfl (fun _ => Nat.le_of_ble_eq_true rfl) (fun K hq => ?_)
  unfold fX7_driftNumber
  refine j_iconst dX7_driftNumber_0 (inr_d rfl) ?_
  refine j_istore_nE (ls2 := [some (.inr (.inr 83)), some (.inl a1), some (.inl 0), none]) dX7_driftNumber_1 rfl (by decide) rfl rfl ?_
  refine j_iconst dX7_driftNumber_2 (inr_d rfl) ?_
  refine j_istore_nE (ls2 := [some (.inr (.inr 83)), some (.inl a1), some (.inl 0), some (.inl 0)]) dX7_driftNumber_3 rfl (by decide) rfl rfl ?_
  refine j_msk [true, true, true, true] (jLX7_driftNumber_4 hq _ _ (fun s3 => ?_) _ _ _ _)
  refine j_bipush (v := (-4)) dX7_driftNumber_35 (by decide +kernel) (inr_d rfl) ?_
  exact j_iret hq dX7_driftNumber_37
abbrev rmX8_append : Room := { frames := 0, cells := 0, slots := 0, locals := 0 }
theorem dX8_append_0 : decode cX8_append 0 = .ok (.aload_n 0, 1) := by decide +kernel
theorem dX8_append_1 : decode cX8_append 1 = .ok (.getfield 19, 3) := by decide +kernel
theorem dX8_append_4 : decode cX8_append 4 = .ok (.iload_n 1, 1) := by decide +kernel
theorem dX8_append_5 : decode cX8_append 5 = .ok (.iadd, 1) := by decide +kernel
theorem dX8_append_6 : decode cX8_append 6 = .ok (.sipush 400, 3) := by decide +kernel
theorem dX8_append_9 : decode cX8_append 9 = .ok (.if_icmp .le 5, 3) := by decide +kernel
theorem dX8_append_12 : decode cX8_append 12 = .ok (.iconst 0, 1) := by decide +kernel
theorem dX8_append_13 : decode cX8_append 13 = .ok (.ireturn, 1) := by decide +kernel
theorem dX8_append_14 : decode cX8_append 14 = .ok (.iload_n 1, 1) := by decide +kernel
theorem dX8_append_15 : decode cX8_append 15 = .ok (.iconst 1, 1) := by decide +kernel
theorem dX8_append_16 : decode cX8_append 16 = .ok (.isub, 1) := by decide +kernel
theorem dX8_append_17 : decode cX8_append 17 = .ok (.istore 4, 2) := by decide +kernel
theorem dX8_append_19 : decode cX8_append 19 = .ok (.iload 4, 2) := by decide +kernel
theorem dX8_append_21 : decode cX8_append 21 = .ok (.ifCond .lt 37, 3) := by decide +kernel
theorem dX8_append_24 : decode cX8_append 24 = .ok (.aload_n 0, 1) := by decide +kernel
theorem dX8_append_25 : decode cX8_append 25 = .ok (.getfield 11, 3) := by decide +kernel
theorem dX8_append_28 : decode cX8_append 28 = .ok (.aload_n 0, 1) := by decide +kernel
theorem dX8_append_29 : decode cX8_append 29 = .ok (.getfield 19, 3) := by decide +kernel
theorem dX8_append_32 : decode cX8_append 32 = .ok (.lload_n 2, 1) := by decide +kernel
theorem dX8_append_33 : decode cX8_append 33 = .ok (.bipush 8, 2) := by decide +kernel
theorem dX8_append_35 : decode cX8_append 35 = .ok (.iload 4, 2) := by decide +kernel
theorem dX8_append_37 : decode cX8_append 37 = .ok (.imul, 1) := by decide +kernel
theorem dX8_append_38 : decode cX8_append 38 = .ok (.lshr, 1) := by decide +kernel
theorem dX8_append_39 : decode cX8_append 39 = .ok (.l2i, 1) := by decide +kernel
theorem dX8_append_40 : decode cX8_append 40 = .ok (.i2b, 1) := by decide +kernel
theorem dX8_append_41 : decode cX8_append 41 = .ok (.bastore, 1) := by decide +kernel
theorem dX8_append_42 : decode cX8_append 42 = .ok (.aload_n 0, 1) := by decide +kernel
theorem dX8_append_43 : decode cX8_append 43 = .ok (.dup, 1) := by decide +kernel
theorem dX8_append_44 : decode cX8_append 44 = .ok (.getfield 19, 3) := by decide +kernel
theorem dX8_append_47 : decode cX8_append 47 = .ok (.iconst 1, 1) := by decide +kernel
theorem dX8_append_48 : decode cX8_append 48 = .ok (.iadd, 1) := by decide +kernel
theorem dX8_append_49 : decode cX8_append 49 = .ok (.putfield 19, 3) := by decide +kernel
theorem dX8_append_52 : decode cX8_append 52 = .ok (.iinc 4 (-1), 3) := by decide +kernel
theorem dX8_append_55 : decode cX8_append 55 = .ok (.goto (-36), 3) := by decide +kernel
theorem dX8_append_58 : decode cX8_append 58 = .ok (.iconst 1, 1) := by decide +kernel
theorem dX8_append_59 : decode cX8_append 59 = .ok (.ireturn, 1) := by decide +kernel
def LX8_append_19 (c2 : Int64) (k58 : Mem → Option Res) : Nat → Int → Mem → Option Res
  | 0 => fun _ _ => none
  | n + 1 => fun x4 s => (if x4 < 0 then
 k58 s
 else
 ST s 9 (s 8 1) 400 (nby (nby (l2i (lsr c2 (wr (8 * x4)))))) (fun s2 =>
 lt (up s2 8 1 (wr ((s2 8 1) + 1))) (fun s3 =>
 LX8_append_19 c2 k58 n (wr (x4 + (-1))) s3)))
def fX8_append (a1 : Int) (a2 : Int64) (s0 : Mem) : Option Res :=
 (if wr ((s0 8 1) + a1) ≤ 400 then
 lt (wr (a1 - 1)) (fun v1 =>
 LX8_append_19 a2 (fun s4 =>
 zr 1 s4) FU v1 s0)
 else
 zr 0 s0)
set_option maxRecDepth 100000 in
set_option maxHeartbeats 4000000 in
theorem jLX8_append_19 {K : KT} (hq : KI K (some .boolean)) (c2 : Int64) (k58 : Mem → Option Res) (hk58 : ∀ (s : Mem), J K rmX8_append cX8_append RX8 5 58 [none, none, none, none, none] [] s (k58 s)) : ∀ (n : Nat) (x4 : Int) (s : Mem), J K rmX8_append cX8_append RX8 5 19 [some (.inr (.inr 8)), none, some (.inr (.inl c2)), none, some (.inl x4)] [] s (LX8_append_19 c2 k58 n x4 s) := by
  intro n
  induction n with
  | zero => intros; exact J_none
  | succ n ih =>
    intro x4 s
    show J K _ _ _ _ _ _ _ _ (LX8_append_19 c2 k58 (n + 1) x4 s)
    simp only [LX8_append_19]
    refine j_iload dX8_append_19 rfl ?_
    refine j_if_lt (tgt := 58) dX8_append_21 rfl ?_ ?_
    · exact j_msk [false, false, false, false, false] (hk58 _)
    · refine j_aload_n dX8_append_24 rfl rfl ?_
      refine j_getR fl_RX8_11 sh_8 rfl dX8_append_25 ?_
      refine j_aload_n dX8_append_28 rfl rfl ?_
      refine j_getI fl_RX8_19 sh_8 rfl dX8_append_29 ?_
      refine j_lload_n dX8_append_32 rfl rfl ?_
      refine j_bipush (v := 8) dX8_append_33 (by decide +kernel) (inr_d rfl) ?_
      refine j_iload dX8_append_35 rfl ?_
      refine j_imul dX8_append_37 ?_
      refine j_lshr dX8_append_38 ?_
      refine j_l2i dX8_append_39 ?_
      refine j_i2b dX8_append_40 ?_
      refine j_bast sh_9 dX8_append_41 (fun s2 => ?_)
      refine j_aload_n dX8_append_42 rfl rfl ?_
      refine j_dup rfl dX8_append_43 ?_
      refine j_getI fl_RX8_19 sh_8 rfl dX8_append_44 ?_
      refine j_iconst dX8_append_47 (inr_d rfl) ?_
      refine j_iadd dX8_append_48 ?_
      refine j_putI fp_RX8_19 sh_8 rfl dX8_append_49 (fun s3 => ?_)
      refine j_iincE (ls2 := [some (.inr (.inr 8)), none, some (.inr (.inl c2)), none, some (.inl (wr (x4 + (-1))))]) dX8_append_52 rfl (by decide) rfl rfl ?_
      refine j_goto (tgt := 19) dX8_append_55 rfl ?_
      exact j_msk [true, false, true, false, true] (ih _ _)
set_option maxRecDepth 100000 in
set_option maxHeartbeats 4000000 in
theorem mX8_append (l : Launch) (D : va_G) (ad : Nat → Nat) (cA : Nat → ClassId) (a1 : Int) (a2 : Int64) (s0 : Mem) : MCi l D ad cA yX8_append cX8_append 5 (some .boolean) rmX8_append [.inr (.inr 8), .inl a1, .inr (.inl a2)] s0 (fX8_append a1 a2 s0) := by
  refine MCi_ofE (own := RX8) (ls := [some (.inr (.inr 8)), some (.inl a1), some (.inr (.inl a2)), none, none]) 1 (by decide +kernel) rfl rfl (fun _ => Nat.le_of_ble_eq_true rfl) (fun K hq => ?_)
  unfold fX8_append
  refine j_aload_n dX8_append_0 rfl rfl ?_
  refine j_getI fl_RX8_19 sh_8 rfl dX8_append_1 ?_
  refine j_iload_n dX8_append_4 rfl rfl ?_
  refine j_iadd dX8_append_5 ?_
  refine j_sipush (v := 400) dX8_append_6 (by decide +kernel) (inr_d rfl) ?_
  refine j_icmp_le (tgt := 14) dX8_append_9 rfl ?_ ?_
  · refine j_iload_n dX8_append_14 rfl rfl ?_
    refine j_iconst dX8_append_15 (inr_d rfl) ?_
    refine j_isub dX8_append_16 ?_
    refine j_ltv (fun v1 => ?_)
    refine j_istoreE (ls2 := [some (.inr (.inr 8)), some (.inl a1), some (.inr (.inl a2)), none, some (.inl v1)]) dX8_append_17 (by decide) rfl rfl ?_
    refine j_msk [true, false, true, false, true] (jLX8_append_19 hq _ _ (fun s4 => ?_) _ _ _)
    refine j_iconst dX8_append_58 (inr_d rfl) ?_
    exact j_zret hq dX8_append_59
  · refine j_iconst dX8_append_12 (inr_d rfl) ?_
    exact j_zret hq dX8_append_13
abbrev rmX8_readNumbers : Room := { frames := 0, cells := 0, slots := 0, locals := 0 }
theorem dX8_readNumbers_0 : decode cX8_readNumbers 0 = .ok (.aload_n 0, 1) := by decide +kernel
theorem dX8_readNumbers_1 : decode cX8_readNumbers 1 = .ok (.iconst 0, 1) := by decide +kernel
theorem dX8_readNumbers_2 : decode cX8_readNumbers 2 = .ok (.putfield 49, 3) := by decide +kernel
theorem dX8_readNumbers_5 : decode cX8_readNumbers 5 = .ok (.iconst 0, 1) := by decide +kernel
theorem dX8_readNumbers_6 : decode cX8_readNumbers 6 = .ok (.istore_n 3, 1) := by decide +kernel
theorem dX8_readNumbers_7 : decode cX8_readNumbers 7 = .ok (.iconst 0, 1) := by decide +kernel
theorem dX8_readNumbers_8 : decode cX8_readNumbers 8 = .ok (.istore 4, 2) := by decide +kernel
theorem dX8_readNumbers_10 : decode cX8_readNumbers 10 = .ok (.iload_n 1, 1) := by decide +kernel
theorem dX8_readNumbers_11 : decode cX8_readNumbers 11 = .ok (.istore 5, 2) := by decide +kernel
theorem dX8_readNumbers_13 : decode cX8_readNumbers 13 = .ok (.iload 5, 2) := by decide +kernel
theorem dX8_readNumbers_15 : decode cX8_readNumbers 15 = .ok (.iload_n 2, 1) := by decide +kernel
theorem dX8_readNumbers_16 : decode cX8_readNumbers 16 = .ok (.if_icmp .gt 112, 3) := by decide +kernel
theorem dX8_readNumbers_19 : decode cX8_readNumbers 19 = .ok (.aload_n 0, 1) := by decide +kernel
theorem dX8_readNumbers_20 : decode cX8_readNumbers 20 = .ok (.getfield 11, 3) := by decide +kernel
theorem dX8_readNumbers_23 : decode cX8_readNumbers 23 = .ok (.iload 5, 2) := by decide +kernel
theorem dX8_readNumbers_25 : decode cX8_readNumbers 25 = .ok (.baload, 1) := by decide +kernel
theorem dX8_readNumbers_26 : decode cX8_readNumbers 26 = .ok (.istore 6, 2) := by decide +kernel
theorem dX8_readNumbers_28 : decode cX8_readNumbers 28 = .ok (.iload 6, 2) := by decide +kernel
theorem dX8_readNumbers_30 : decode cX8_readNumbers 30 = .ok (.bipush 48, 2) := by decide +kernel
theorem dX8_readNumbers_32 : decode cX8_readNumbers 32 = .ok (.if_icmp .lt 34, 3) := by decide +kernel
theorem dX8_readNumbers_35 : decode cX8_readNumbers 35 = .ok (.iload 6, 2) := by decide +kernel
theorem dX8_readNumbers_37 : decode cX8_readNumbers 37 = .ok (.bipush 57, 2) := by decide +kernel
theorem dX8_readNumbers_39 : decode cX8_readNumbers 39 = .ok (.if_icmp .gt 27, 3) := by decide +kernel
theorem dX8_readNumbers_42 : decode cX8_readNumbers 42 = .ok (.iload_n 3, 1) := by decide +kernel
theorem dX8_readNumbers_43 : decode cX8_readNumbers 43 = .ok (.iconst 4, 1) := by decide +kernel
theorem dX8_readNumbers_44 : decode cX8_readNumbers 44 = .ok (.if_icmp .ge 22, 3) := by decide +kernel
theorem dX8_readNumbers_47 : decode cX8_readNumbers 47 = .ok (.iload 4, 2) := by decide +kernel
theorem dX8_readNumbers_49 : decode cX8_readNumbers 49 = .ok (.bipush 10, 2) := by decide +kernel
theorem dX8_readNumbers_51 : decode cX8_readNumbers 51 = .ok (.imul, 1) := by decide +kernel
theorem dX8_readNumbers_52 : decode cX8_readNumbers 52 = .ok (.iload 6, 2) := by decide +kernel
theorem dX8_readNumbers_54 : decode cX8_readNumbers 54 = .ok (.iadd, 1) := by decide +kernel
theorem dX8_readNumbers_55 : decode cX8_readNumbers 55 = .ok (.bipush 48, 2) := by decide +kernel
theorem dX8_readNumbers_57 : decode cX8_readNumbers 57 = .ok (.isub, 1) := by decide +kernel
theorem dX8_readNumbers_58 : decode cX8_readNumbers 58 = .ok (.istore 4, 2) := by decide +kernel
theorem dX8_readNumbers_60 : decode cX8_readNumbers 60 = .ok (.iinc 3 1, 3) := by decide +kernel
theorem dX8_readNumbers_63 : decode cX8_readNumbers 63 = .ok (.goto 59, 3) := by decide +kernel
theorem dX8_readNumbers_66 : decode cX8_readNumbers 66 = .ok (.iload 6, 2) := by decide +kernel
theorem dX8_readNumbers_68 : decode cX8_readNumbers 68 = .ok (.bipush 44, 2) := by decide +kernel
theorem dX8_readNumbers_70 : decode cX8_readNumbers 70 = .ok (.if_icmp .eq 9, 3) := by decide +kernel
theorem dX8_readNumbers_73 : decode cX8_readNumbers 73 = .ok (.iload 5, 2) := by decide +kernel
theorem dX8_readNumbers_75 : decode cX8_readNumbers 75 = .ok (.iload_n 2, 1) := by decide +kernel
theorem dX8_readNumbers_76 : decode cX8_readNumbers 76 = .ok (.if_icmp .ne 44, 3) := by decide +kernel
theorem dX8_readNumbers_79 : decode cX8_readNumbers 79 = .ok (.iload_n 3, 1) := by decide +kernel
theorem dX8_readNumbers_80 : decode cX8_readNumbers 80 = .ok (.ifCond .le 40, 3) := by decide +kernel
theorem dX8_readNumbers_83 : decode cX8_readNumbers 83 = .ok (.aload_n 0, 1) := by decide +kernel
theorem dX8_readNumbers_84 : decode cX8_readNumbers 84 = .ok (.getfield 49, 3) := by decide +kernel
theorem dX8_readNumbers_87 : decode cX8_readNumbers 87 = .ok (.iconst 5, 1) := by decide +kernel
theorem dX8_readNumbers_88 : decode cX8_readNumbers 88 = .ok (.if_icmp .ge 32, 3) := by decide +kernel
theorem dX8_readNumbers_91 : decode cX8_readNumbers 91 = .ok (.aload_n 0, 1) := by decide +kernel
theorem dX8_readNumbers_92 : decode cX8_readNumbers 92 = .ok (.getfield 15, 3) := by decide +kernel
theorem dX8_readNumbers_95 : decode cX8_readNumbers 95 = .ok (.aload_n 0, 1) := by decide +kernel
theorem dX8_readNumbers_96 : decode cX8_readNumbers 96 = .ok (.getfield 49, 3) := by decide +kernel
theorem dX8_readNumbers_99 : decode cX8_readNumbers 99 = .ok (.iload 4, 2) := by decide +kernel
theorem dX8_readNumbers_101 : decode cX8_readNumbers 101 = .ok (.iastore, 1) := by decide +kernel
theorem dX8_readNumbers_102 : decode cX8_readNumbers 102 = .ok (.aload_n 0, 1) := by decide +kernel
theorem dX8_readNumbers_103 : decode cX8_readNumbers 103 = .ok (.dup, 1) := by decide +kernel
theorem dX8_readNumbers_104 : decode cX8_readNumbers 104 = .ok (.getfield 49, 3) := by decide +kernel
theorem dX8_readNumbers_107 : decode cX8_readNumbers 107 = .ok (.iconst 1, 1) := by decide +kernel
theorem dX8_readNumbers_108 : decode cX8_readNumbers 108 = .ok (.iadd, 1) := by decide +kernel
theorem dX8_readNumbers_109 : decode cX8_readNumbers 109 = .ok (.putfield 49, 3) := by decide +kernel
theorem dX8_readNumbers_112 : decode cX8_readNumbers 112 = .ok (.iconst 0, 1) := by decide +kernel
theorem dX8_readNumbers_113 : decode cX8_readNumbers 113 = .ok (.istore_n 3, 1) := by decide +kernel
theorem dX8_readNumbers_114 : decode cX8_readNumbers 114 = .ok (.iconst 0, 1) := by decide +kernel
theorem dX8_readNumbers_115 : decode cX8_readNumbers 115 = .ok (.istore 4, 2) := by decide +kernel
theorem dX8_readNumbers_117 : decode cX8_readNumbers 117 = .ok (.goto 5, 3) := by decide +kernel
theorem dX8_readNumbers_120 : decode cX8_readNumbers 120 = .ok (.iconst 0, 1) := by decide +kernel
theorem dX8_readNumbers_121 : decode cX8_readNumbers 121 = .ok (.ireturn, 1) := by decide +kernel
theorem dX8_readNumbers_122 : decode cX8_readNumbers 122 = .ok (.iinc 5 1, 3) := by decide +kernel
theorem dX8_readNumbers_125 : decode cX8_readNumbers 125 = .ok (.goto (-112), 3) := by decide +kernel
theorem dX8_readNumbers_128 : decode cX8_readNumbers 128 = .ok (.aload_n 0, 1) := by decide +kernel
theorem dX8_readNumbers_129 : decode cX8_readNumbers 129 = .ok (.getfield 49, 3) := by decide +kernel
theorem dX8_readNumbers_132 : decode cX8_readNumbers 132 = .ok (.ifCond .le 7, 3) := by decide +kernel
theorem dX8_readNumbers_135 : decode cX8_readNumbers 135 = .ok (.iconst 1, 1) := by decide +kernel
theorem dX8_readNumbers_136 : decode cX8_readNumbers 136 = .ok (.goto 4, 3) := by decide +kernel
theorem dX8_readNumbers_139 : decode cX8_readNumbers 139 = .ok (.iconst 0, 1) := by decide +kernel
theorem dX8_readNumbers_140 : decode cX8_readNumbers 140 = .ok (.ireturn, 1) := by decide +kernel
def LX8_readNumbers_13 (c2 : Int) (k128 : Mem → Option Res) : Nat → Int → Int → Int → Mem → Option Res
  | 0 => fun _ _ _ _ => none
  | n + 1 => fun x3 x4 x5 s => (if c2 < x5 then
 k128 s
 else
 rd (s 9) x5 400 (fun v2 =>
 jn (fun (w3 w4 w5 : Int) (s6 : Mem) =>
 jn (fun (s7 : Mem) =>
 (if w3 ≤ 0 then
 zr 0 s7
 else
 (if 5 ≤ s7 8 3 then
 zr 0 s7
 else
 ST s7 10 (s7 8 3) 5 w4 (fun s8 =>
 lt (up s8 8 3 (wr ((s8 8 3) + 1))) (fun s9 =>
 LX8_readNumbers_13 c2 k128 n 0 0 (wr (w5 + 1)) s9))))) (fun k79 =>
 (if v2 = 44 then
 k79 s6
 else
 (if w5 ≠ c2 then
 zr 0 s6
 else
 k79 s6)))) (fun k66 =>
 (if v2 < 48 then
 k66 x3 x4 x5 s
 else
 (if 57 < v2 then
 k66 x3 x4 x5 s
 else
 (if 4 ≤ x3 then
 k66 x3 x4 x5 s
 else
 lt (wr ((wr ((wr (x4 * 10)) + v2)) - 48)) (fun v10 =>
 LX8_readNumbers_13 c2 k128 n (wr (x3 + 1)) v10 (wr (x5 + 1)) s)))))))
def fX8_readNumbers (a1 : Int) (a2 : Int) (s0 : Mem) : Option Res :=
 lt (up s0 8 3 0) (fun s1 =>
 LX8_readNumbers_13 a2 (fun s11 =>
 (if s11 8 3 ≤ 0 then
 zr 0 s11
 else
 zr 1 s11)) FU 0 0 a1 s1)
set_option maxRecDepth 100000 in
set_option maxHeartbeats 4000000 in
theorem jLX8_readNumbers_13 {K : KT} (hq : KI K (some .boolean)) (c2 : Int) (k128 : Mem → Option Res) (hk128 : ∀ (s : Mem), J K rmX8_readNumbers cX8_readNumbers RX8 7 128 [some (.inr (.inr 8)), none, none, none, none, none, none] [] s (k128 s)) : ∀ (n : Nat) (x3 : Int) (x4 : Int) (x5 : Int) (s : Mem), J K rmX8_readNumbers cX8_readNumbers RX8 7 13 [some (.inr (.inr 8)), none, some (.inl c2), some (.inl x3), some (.inl x4), some (.inl x5), none] [] s (LX8_readNumbers_13 c2 k128 n x3 x4 x5 s) := by
  intro n
  induction n with
  | zero => intros; exact J_none
  | succ n ih =>
    intro x3 x4 x5 s
    show J K _ _ _ _ _ _ _ _ (LX8_readNumbers_13 c2 k128 (n + 1) x3 x4 x5 s)
    simp only [LX8_readNumbers_13]
    refine j_iload dX8_readNumbers_13 rfl ?_
    refine j_iload_n dX8_readNumbers_15 rfl rfl ?_
    refine j_icmp_gt (tgt := 128) dX8_readNumbers_16 rfl ?_ ?_
    · exact j_msk [true, false, false, false, false, false, false] (hk128 _)
    · refine j_aload_n dX8_readNumbers_19 rfl rfl ?_
      refine j_getR fl_RX8_11 sh_8 rfl dX8_readNumbers_20 ?_
      refine j_iload dX8_readNumbers_23 rfl ?_
      refine j_bald sh_9 dX8_readNumbers_25 (fun v2 => ?_)
      refine j_istoreE (ls2 := [some (.inr (.inr 8)), none, some (.inl c2), some (.inl x3), some (.inl x4), some (.inl x5), some (.inl v2)]) dX8_readNumbers_26 (by decide) rfl rfl ?_
      refine j_iload dX8_readNumbers_28 rfl ?_
      refine j_bipush (v := 48) dX8_readNumbers_30 (by decide +kernel) (inr_d rfl) ?_
      refine j_jn (fun k66 => ∀ (w3 w4 w5 : Int) (s6 : Mem), J K rmX8_readNumbers cX8_readNumbers RX8 7 66 [some (.inr (.inr 8)), none, some (.inl c2), some (.inl w3), some (.inl w4), some (.inl w5), some (.inl v2)] [] s6 (k66 w3 w4 w5 s6)) (fun w3 w4 w5 s6 => ?_) (fun k66 hk66 => ?_)
      · refine j_iload dX8_readNumbers_66 rfl ?_
        refine j_bipush (v := 44) dX8_readNumbers_68 (by decide +kernel) (inr_d rfl) ?_
        refine j_jn (fun k79 => ∀ (s7 : Mem), J K rmX8_readNumbers cX8_readNumbers RX8 7 79 [some (.inr (.inr 8)), none, some (.inl c2), some (.inl w3), some (.inl w4), some (.inl w5), none] [] s7 (k79 s7)) (fun s7 => ?_) (fun k79 hk79 => ?_)
        · refine j_iload_n dX8_readNumbers_79 rfl rfl ?_
          refine j_if_le (tgt := 120) dX8_readNumbers_80 rfl ?_ ?_
          · refine j_iconst dX8_readNumbers_120 (inr_d rfl) ?_
            exact j_zret hq dX8_readNumbers_121
          · refine j_aload_n dX8_readNumbers_83 rfl rfl ?_
            refine j_getI fl_RX8_49 sh_8 rfl dX8_readNumbers_84 ?_
            refine j_iconst dX8_readNumbers_87 (inr_d rfl) ?_
            refine j_icmp_ge (tgt := 120) dX8_readNumbers_88 rfl ?_ ?_
            · refine j_iconst dX8_readNumbers_120 (inr_d rfl) ?_
              exact j_zret hq dX8_readNumbers_121
            · refine j_aload_n dX8_readNumbers_91 rfl rfl ?_
              refine j_getR fl_RX8_15 sh_8 rfl dX8_readNumbers_92 ?_
              refine j_aload_n dX8_readNumbers_95 rfl rfl ?_
              refine j_getI fl_RX8_49 sh_8 rfl dX8_readNumbers_96 ?_
              refine j_iload dX8_readNumbers_99 rfl ?_
              refine j_iast sh_10 dX8_readNumbers_101 (fun s8 => ?_)
              refine j_aload_n dX8_readNumbers_102 rfl rfl ?_
              refine j_dup rfl dX8_readNumbers_103 ?_
              refine j_getI fl_RX8_49 sh_8 rfl dX8_readNumbers_104 ?_
              refine j_iconst dX8_readNumbers_107 (inr_d rfl) ?_
              refine j_iadd dX8_readNumbers_108 ?_
              refine j_putI fp_RX8_49 sh_8 rfl dX8_readNumbers_109 (fun s9 => ?_)
              refine j_iconst dX8_readNumbers_112 (inr_d rfl) ?_
              refine j_istore_nE (ls2 := [some (.inr (.inr 8)), none, some (.inl c2), some (.inl 0), some (.inl w4), some (.inl w5), none]) dX8_readNumbers_113 rfl (by decide) rfl rfl ?_
              refine j_iconst dX8_readNumbers_114 (inr_d rfl) ?_
              refine j_istoreE (ls2 := [some (.inr (.inr 8)), none, some (.inl c2), some (.inl 0), some (.inl 0), some (.inl w5), none]) dX8_readNumbers_115 (by decide) rfl rfl ?_
              refine j_goto (tgt := 122) dX8_readNumbers_117 rfl ?_
              refine j_iincE (ls2 := [some (.inr (.inr 8)), none, some (.inl c2), some (.inl 0), some (.inl 0), some (.inl (wr (w5 + 1))), none]) dX8_readNumbers_122 rfl (by decide) rfl rfl ?_
              refine j_goto (tgt := 13) dX8_readNumbers_125 rfl ?_
              exact j_msk [true, false, true, true, true, true, false] (ih _ _ _ _)
        refine j_icmp_eq (tgt := 79) dX8_readNumbers_70 rfl ?_ ?_
        · exact j_msk [true, false, true, true, true, true, false] (hk79 _)
        · refine j_iload dX8_readNumbers_73 rfl ?_
          refine j_iload_n dX8_readNumbers_75 rfl rfl ?_
          refine j_icmp_ne (tgt := 120) dX8_readNumbers_76 rfl ?_ ?_
          · refine j_iconst dX8_readNumbers_120 (inr_d rfl) ?_
            exact j_zret hq dX8_readNumbers_121
          · exact j_msk [true, false, true, true, true, true, false] (hk79 _)
      refine j_icmp_lt (tgt := 66) dX8_readNumbers_32 rfl ?_ ?_
      · exact j_msk [true, false, true, true, true, true, true] (hk66 _ _ _ _)
      · refine j_iload dX8_readNumbers_35 rfl ?_
        refine j_bipush (v := 57) dX8_readNumbers_37 (by decide +kernel) (inr_d rfl) ?_
        refine j_icmp_gt (tgt := 66) dX8_readNumbers_39 rfl ?_ ?_
        · exact j_msk [true, false, true, true, true, true, true] (hk66 _ _ _ _)
        · refine j_iload_n dX8_readNumbers_42 rfl rfl ?_
          refine j_iconst dX8_readNumbers_43 (inr_d rfl) ?_
          refine j_icmp_ge (tgt := 66) dX8_readNumbers_44 rfl ?_ ?_
          · exact j_msk [true, false, true, true, true, true, true] (hk66 _ _ _ _)
          · refine j_iload dX8_readNumbers_47 rfl ?_
            refine j_bipush (v := 10) dX8_readNumbers_49 (by decide +kernel) (inr_d rfl) ?_
            refine j_imul dX8_readNumbers_51 ?_
            refine j_iload dX8_readNumbers_52 rfl ?_
            refine j_iadd dX8_readNumbers_54 ?_
            refine j_bipush (v := 48) dX8_readNumbers_55 (by decide +kernel) (inr_d rfl) ?_
            refine j_isub dX8_readNumbers_57 ?_
            refine j_ltv (fun v10 => ?_)
            refine j_istoreE (ls2 := [some (.inr (.inr 8)), none, some (.inl c2), some (.inl x3), some (.inl v10), some (.inl x5), some (.inl v2)]) dX8_readNumbers_58 (by decide) rfl rfl ?_
            refine j_iincE (ls2 := [some (.inr (.inr 8)), none, some (.inl c2), some (.inl (wr (x3 + 1))), some (.inl v10), some (.inl x5), some (.inl v2)]) dX8_readNumbers_60 rfl (by decide) rfl rfl ?_
            refine j_goto (tgt := 122) dX8_readNumbers_63 rfl ?_
            refine j_iincE (ls2 := [some (.inr (.inr 8)), none, some (.inl c2), some (.inl (wr (x3 + 1))), some (.inl v10), some (.inl (wr (x5 + 1))), some (.inl v2)]) dX8_readNumbers_122 rfl (by decide) rfl rfl ?_
            refine j_goto (tgt := 13) dX8_readNumbers_125 rfl ?_
            exact j_msk [true, false, true, true, true, true, false] (ih _ _ _ _)
set_option maxRecDepth 100000 in
set_option maxHeartbeats 4000000 in
theorem mX8_readNumbers (l : Launch) (D : va_G) (ad : Nat → Nat) (cA : Nat → ClassId) (a1 : Int) (a2 : Int) (s0 : Mem) : MCi l D ad cA yX8_readNumbers cX8_readNumbers 7 (some .boolean) rmX8_readNumbers [.inr (.inr 8), .inl a1, .inl a2] s0 (fX8_readNumbers a1 a2 s0) := by
  refine MCi_ofE (own := RX8) (ls := [some (.inr (.inr 8)), some (.inl a1), some (.inl a2), none, none, none, none]) 4 (by decide +kernel) rfl rfl (fun _ => Nat.le_of_ble_eq_true rfl) (fun K hq => ?_)
  unfold fX8_readNumbers
  refine j_aload_n dX8_readNumbers_0 rfl rfl ?_
  refine j_iconst dX8_readNumbers_1 (inr_d rfl) ?_
  refine j_putI fp_RX8_49 sh_8 rfl dX8_readNumbers_2 (fun s1 => ?_)
  refine j_iconst dX8_readNumbers_5 (inr_d rfl) ?_
  refine j_istore_nE (ls2 := [some (.inr (.inr 8)), some (.inl a1), some (.inl a2), some (.inl 0), none, none, none]) dX8_readNumbers_6 rfl (by decide) rfl rfl ?_
  refine j_iconst dX8_readNumbers_7 (inr_d rfl) ?_
  refine j_istoreE (ls2 := [some (.inr (.inr 8)), some (.inl a1), some (.inl a2), some (.inl 0), some (.inl 0), none, none]) dX8_readNumbers_8 (by decide) rfl rfl ?_
  refine j_iload_n dX8_readNumbers_10 rfl rfl ?_
  refine j_istoreE (ls2 := [some (.inr (.inr 8)), some (.inl a1), some (.inl a2), some (.inl 0), some (.inl 0), some (.inl a1), none]) dX8_readNumbers_11 (by decide) rfl rfl ?_
  refine j_msk [true, false, true, true, true, true, false] (jLX8_readNumbers_13 hq _ _ (fun s11 => ?_) _ _ _ _ _)
  refine j_aload_n dX8_readNumbers_128 rfl rfl ?_
  refine j_getI fl_RX8_49 sh_8 rfl dX8_readNumbers_129 ?_
  refine j_if_le (tgt := 139) dX8_readNumbers_132 rfl ?_ ?_
  · refine j_iconst dX8_readNumbers_139 (inr_d rfl) ?_
    exact j_zret hq dX8_readNumbers_140
  · refine j_iconst dX8_readNumbers_135 (inr_d rfl) ?_
    refine j_goto (tgt := 140) dX8_readNumbers_136 rfl ?_
    exact j_zret hq dX8_readNumbers_140
abbrev rmX8_areLights : Room := { frames := 1, cells := 0, slots := 0, locals := 22 }
theorem dX8_areLights_0 : decode cX8_areLights 0 = .ok (.aload_n 0, 1) := by decide +kernel
theorem dX8_areLights_1 : decode cX8_areLights 1 = .ok (.getfield 15, 3) := by decide +kernel
theorem dX8_areLights_4 : decode cX8_areLights 4 = .ok (.iload_n 1, 1) := by decide +kernel
theorem dX8_areLights_5 : decode cX8_areLights 5 = .ok (.iaload, 1) := by decide +kernel
theorem dX8_areLights_6 : decode cX8_areLights 6 = .ok (.iconst 1, 1) := by decide +kernel
theorem dX8_areLights_7 : decode cX8_areLights 7 = .ok (.bipush 50, 2) := by decide +kernel
theorem dX8_areLights_9 : decode cX8_areLights 9 = .ok (.invokestatic 55, 3) := by decide +kernel
theorem dX8_areLights_12 : decode cX8_areLights 12 = .ok (.ifCond .eq 41, 3) := by decide +kernel
theorem dX8_areLights_15 : decode cX8_areLights 15 = .ok (.aload_n 0, 1) := by decide +kernel
theorem dX8_areLights_16 : decode cX8_areLights 16 = .ok (.getfield 15, 3) := by decide +kernel
theorem dX8_areLights_19 : decode cX8_areLights 19 = .ok (.iload_n 1, 1) := by decide +kernel
theorem dX8_areLights_20 : decode cX8_areLights 20 = .ok (.iconst 1, 1) := by decide +kernel
theorem dX8_areLights_21 : decode cX8_areLights 21 = .ok (.iadd, 1) := by decide +kernel
theorem dX8_areLights_22 : decode cX8_areLights 22 = .ok (.iaload, 1) := by decide +kernel
theorem dX8_areLights_23 : decode cX8_areLights 23 = .ok (.iconst 1, 1) := by decide +kernel
theorem dX8_areLights_24 : decode cX8_areLights 24 = .ok (.bipush 50, 2) := by decide +kernel
theorem dX8_areLights_26 : decode cX8_areLights 26 = .ok (.invokestatic 55, 3) := by decide +kernel
theorem dX8_areLights_29 : decode cX8_areLights 29 = .ok (.ifCond .eq 24, 3) := by decide +kernel
theorem dX8_areLights_32 : decode cX8_areLights 32 = .ok (.aload_n 0, 1) := by decide +kernel
theorem dX8_areLights_33 : decode cX8_areLights 33 = .ok (.getfield 15, 3) := by decide +kernel
theorem dX8_areLights_36 : decode cX8_areLights 36 = .ok (.iload_n 1, 1) := by decide +kernel
theorem dX8_areLights_37 : decode cX8_areLights 37 = .ok (.iconst 2, 1) := by decide +kernel
theorem dX8_areLights_38 : decode cX8_areLights 38 = .ok (.iadd, 1) := by decide +kernel
theorem dX8_areLights_39 : decode cX8_areLights 39 = .ok (.iaload, 1) := by decide +kernel
theorem dX8_areLights_40 : decode cX8_areLights 40 = .ok (.iconst 1, 1) := by decide +kernel
theorem dX8_areLights_41 : decode cX8_areLights 41 = .ok (.bipush 50, 2) := by decide +kernel
theorem dX8_areLights_43 : decode cX8_areLights 43 = .ok (.invokestatic 55, 3) := by decide +kernel
theorem dX8_areLights_46 : decode cX8_areLights 46 = .ok (.ifCond .eq 7, 3) := by decide +kernel
theorem dX8_areLights_49 : decode cX8_areLights 49 = .ok (.iconst 1, 1) := by decide +kernel
theorem dX8_areLights_50 : decode cX8_areLights 50 = .ok (.goto 4, 3) := by decide +kernel
theorem dX8_areLights_53 : decode cX8_areLights 53 = .ok (.iconst 0, 1) := by decide +kernel
theorem dX8_areLights_54 : decode cX8_areLights 54 = .ok (.ireturn, 1) := by decide +kernel
def fX8_areLights (a1 : Int) (s0 : Mem) : Option Res :=
 rd (s0 10) a1 5 (fun v1 =>
 bnd (fX10_isWithin v1 1 50 s0) (fun r2 s3 =>
 (if r2 = 0 then
 zr 0 s3
 else
 rd (s3 10) (wr (a1 + 1)) 5 (fun v4 =>
 bnd (fX10_isWithin v4 1 50 s3) (fun r5 s6 =>
 (if r5 = 0 then
 zr 0 s6
 else
 rd (s6 10) (wr (a1 + 2)) 5 (fun v7 =>
 bnd (fX10_isWithin v7 1 50 s6) (fun r8 s9 =>
 (if r8 = 0 then
 zr 0 s9
 else
 zr 1 s9)))))))))
set_option maxRecDepth 100000 in
set_option maxHeartbeats 4000000 in
theorem mX8_areLights (l : Launch) (D : va_G) (ad : Nat → Nat) (cA : Nat → ClassId) (a1 : Int) (s0 : Mem) : MCi l D ad cA yX8_areLights cX8_areLights 2 (some .boolean) rmX8_areLights [.inr (.inr 8), .inl a1] s0 (fX8_areLights a1 s0) := by
  refine MCi_ofE (own := RX8) (ls := [some (.inr (.inr 8)), some (.inl a1)]) 0 (by decide +kernel) rfl rfl (fun _ => Nat.le_of_ble_eq_true rfl) (fun K hq => ?_)
  unfold fX8_areLights
  refine j_aload_n dX8_areLights_0 rfl rfl ?_
  refine j_getR fl_RX8_15 sh_8 rfl dX8_areLights_1 ?_
  refine j_iload_n dX8_areLights_4 rfl rfl ?_
  refine j_iald sh_10 dX8_areLights_5 (fun v1 => ?_)
  refine j_iconst dX8_areLights_6 (inr_d rfl) ?_
  refine j_bipush (v := 50) dX8_areLights_7 (by decide +kernel) (inr_d rfl) ?_
  refine j_callNi (mX10_isWithin (kl K) (kD K) (kad K) (kcA K) v1 1 50 s0) cw_RX8_55 ⟨rfl, rfl, by decide, by decide⟩ rfl rfl (Nat.le_of_ble_eq_true rfl) dX8_areLights_9 (fun r2 s3 => ?_)
  refine j_if_eq (tgt := 53) dX8_areLights_12 rfl ?_ ?_
  · refine j_iconst dX8_areLights_53 (inr_d rfl) ?_
    exact j_zret hq dX8_areLights_54
  · refine j_aload_n dX8_areLights_15 rfl rfl ?_
    refine j_getR fl_RX8_15 sh_8 rfl dX8_areLights_16 ?_
    refine j_iload_n dX8_areLights_19 rfl rfl ?_
    refine j_iconst dX8_areLights_20 (inr_d rfl) ?_
    refine j_iadd dX8_areLights_21 ?_
    refine j_iald sh_10 dX8_areLights_22 (fun v4 => ?_)
    refine j_iconst dX8_areLights_23 (inr_d rfl) ?_
    refine j_bipush (v := 50) dX8_areLights_24 (by decide +kernel) (inr_d rfl) ?_
    refine j_callNi (mX10_isWithin (kl K) (kD K) (kad K) (kcA K) v4 1 50 s3) cw_RX8_55 ⟨rfl, rfl, by decide, by decide⟩ rfl rfl (Nat.le_of_ble_eq_true rfl) dX8_areLights_26 (fun r5 s6 => ?_)
    refine j_if_eq (tgt := 53) dX8_areLights_29 rfl ?_ ?_
    · refine j_iconst dX8_areLights_53 (inr_d rfl) ?_
      exact j_zret hq dX8_areLights_54
    · refine j_aload_n dX8_areLights_32 rfl rfl ?_
      refine j_getR fl_RX8_15 sh_8 rfl dX8_areLights_33 ?_
      refine j_iload_n dX8_areLights_36 rfl rfl ?_
      refine j_iconst dX8_areLights_37 (inr_d rfl) ?_
      refine j_iadd dX8_areLights_38 ?_
      refine j_iald sh_10 dX8_areLights_39 (fun v7 => ?_)
      refine j_iconst dX8_areLights_40 (inr_d rfl) ?_
      refine j_bipush (v := 50) dX8_areLights_41 (by decide +kernel) (inr_d rfl) ?_
      refine j_callNi (mX10_isWithin (kl K) (kD K) (kad K) (kcA K) v7 1 50 s6) cw_RX8_55 ⟨rfl, rfl, by decide, by decide⟩ rfl rfl (Nat.le_of_ble_eq_true rfl) dX8_areLights_43 (fun r8 s9 => ?_)
      refine j_if_eq (tgt := 53) dX8_areLights_46 rfl ?_ ?_
      · refine j_iconst dX8_areLights_53 (inr_d rfl) ?_
        exact j_zret hq dX8_areLights_54
      · refine j_iconst dX8_areLights_49 (inr_d rfl) ?_
        refine j_goto (tgt := 54) dX8_areLights_50 rfl ?_
        exact j_zret hq dX8_areLights_54
