abbrev rmX11_in : Room := { frames := 0, cells := 0, slots := 0, locals := 0 }
theorem dX11_in_0 : decode cX11_in 0 = .ok (.iload_n 0, 1) := by decide +kernel
theorem dX11_in_1 : decode cX11_in 1 = .ok (.iload_n 1, 1) := by decide +kernel
theorem dX11_in_2 : decode cX11_in 2 = .ok (.if_icmp .lt 12, 3) := by decide +kernel
theorem dX11_in_5 : decode cX11_in 5 = .ok (.iload_n 0, 1) := by decide +kernel
theorem dX11_in_6 : decode cX11_in 6 = .ok (.iload_n 2, 1) := by decide +kernel
theorem dX11_in_7 : decode cX11_in 7 = .ok (.if_icmp .gt 7, 3) := by decide +kernel
theorem dX11_in_10 : decode cX11_in 10 = .ok (.iconst 1, 1) := by decide +kernel
theorem dX11_in_11 : decode cX11_in 11 = .ok (.goto 4, 3) := by decide +kernel
theorem dX11_in_14 : decode cX11_in 14 = .ok (.iconst 0, 1) := by decide +kernel
theorem dX11_in_15 : decode cX11_in 15 = .ok (.ireturn, 1) := by decide +kernel
def fX11_in (a0 : Int) (a1 : Int) (a2 : Int) (s0 : Mem) : Option Res :=
 (if a0 < a1 then
 zr 0 s0
 else
 (if a2 < a0 then
 zr 0 s0
 else
 zr 1 s0))
set_option maxRecDepth 100000 in
set_option maxHeartbeats 4000000 in
theorem mX11_in (l : Launch) (D : va_G) (ad : Nat → Nat) (cA : Nat → ClassId) (a0 : Int) (a1 : Int) (a2 : Int) (s0 : Mem) : MCi l D ad cA yX11_in cX11_in 3 (some .boolean) rmX11_in [.inl a0, .inl a1, .inl a2] s0 (fX11_in a0 a1 a2 s0) := by
  refine MCi_ofE (own := RX11) (ls := [some (.inl a0), some (.inl a1), some (.inl a2)]) 0 (by decide +kernel) rfl rfl (fun _ => Nat.le_of_ble_eq_true rfl) (fun K hq => ?_)
  unfold fX11_in
  refine j_iload_n dX11_in_0 rfl rfl ?_
  refine j_iload_n dX11_in_1 rfl rfl ?_
  refine j_icmp_lt (tgt := 14) dX11_in_2 rfl ?_ ?_
  · refine j_iconst dX11_in_14 (inr_d rfl) ?_
    exact j_zret hq dX11_in_15
  · refine j_iload_n dX11_in_5 rfl rfl ?_
    refine j_iload_n dX11_in_6 rfl rfl ?_
    refine j_icmp_gt (tgt := 14) dX11_in_7 rfl ?_ ?_
    · refine j_iconst dX11_in_14 (inr_d rfl) ?_
      exact j_zret hq dX11_in_15
    · refine j_iconst dX11_in_10 (inr_d rfl) ?_
      refine j_goto (tgt := 15) dX11_in_11 rfl ?_
      exact j_zret hq dX11_in_15
abbrev rmX11_table : Room := { frames := 1, cells := 0, slots := 0, locals := 22 }
theorem dX11_table_0 : decode cX11_table 0 = .ok (.iload_n 1, 1) := by decide +kernel
theorem dX11_table_1 : decode cX11_table 1 = .ok (.iconst 0, 1) := by decide +kernel
theorem dX11_table_2 : decode cX11_table 2 = .ok (.iconst 2, 1) := by decide +kernel
theorem dX11_table_3 : decode cX11_table 3 = .ok (.invokestatic 125, 3) := by decide +kernel
theorem dX11_table_6 : decode cX11_table 6 = .ok (.ifCond .eq 34, 3) := by decide +kernel
theorem dX11_table_9 : decode cX11_table 9 = .ok (.iload_n 2, 1) := by decide +kernel
theorem dX11_table_10 : decode cX11_table 10 = .ok (.iconst 0, 1) := by decide +kernel
theorem dX11_table_11 : decode cX11_table 11 = .ok (.iconst 2, 1) := by decide +kernel
theorem dX11_table_12 : decode cX11_table 12 = .ok (.invokestatic 125, 3) := by decide +kernel
theorem dX11_table_15 : decode cX11_table 15 = .ok (.ifCond .eq 25, 3) := by decide +kernel
theorem dX11_table_18 : decode cX11_table 18 = .ok (.iload_n 3, 1) := by decide +kernel
theorem dX11_table_19 : decode cX11_table 19 = .ok (.iconst 0, 1) := by decide +kernel
theorem dX11_table_20 : decode cX11_table 20 = .ok (.bipush 8, 2) := by decide +kernel
theorem dX11_table_22 : decode cX11_table 22 = .ok (.invokestatic 125, 3) := by decide +kernel
theorem dX11_table_25 : decode cX11_table 25 = .ok (.ifCond .eq 15, 3) := by decide +kernel
theorem dX11_table_28 : decode cX11_table 28 = .ok (.iload 4, 2) := by decide +kernel
theorem dX11_table_30 : decode cX11_table 30 = .ok (.iconst 0, 1) := by decide +kernel
theorem dX11_table_31 : decode cX11_table 31 = .ok (.sipush 255, 3) := by decide +kernel
theorem dX11_table_34 : decode cX11_table 34 = .ok (.invokestatic 125, 3) := by decide +kernel
theorem dX11_table_37 : decode cX11_table 37 = .ok (.ifCond .ne 5, 3) := by decide +kernel
theorem dX11_table_40 : decode cX11_table 40 = .ok (.iconst (-1), 1) := by decide +kernel
theorem dX11_table_41 : decode cX11_table 41 = .ok (.ireturn, 1) := by decide +kernel
theorem dX11_table_42 : decode cX11_table 42 = .ok (.bipush 27, 2) := by decide +kernel
theorem dX11_table_44 : decode cX11_table 44 = .ok (.iload_n 1, 1) := by decide +kernel
theorem dX11_table_45 : decode cX11_table 45 = .ok (.imul, 1) := by decide +kernel
theorem dX11_table_46 : decode cX11_table 46 = .ok (.bipush 9, 2) := by decide +kernel
theorem dX11_table_48 : decode cX11_table 48 = .ok (.iload_n 2, 1) := by decide +kernel
theorem dX11_table_49 : decode cX11_table 49 = .ok (.imul, 1) := by decide +kernel
theorem dX11_table_50 : decode cX11_table 50 = .ok (.iadd, 1) := by decide +kernel
theorem dX11_table_51 : decode cX11_table 51 = .ok (.iload_n 3, 1) := by decide +kernel
theorem dX11_table_52 : decode cX11_table 52 = .ok (.iadd, 1) := by decide +kernel
theorem dX11_table_53 : decode cX11_table 53 = .ok (.istore 5, 2) := by decide +kernel
theorem dX11_table_55 : decode cX11_table 55 = .ok (.iload_n 3, 1) := by decide +kernel
theorem dX11_table_56 : decode cX11_table 56 = .ok (.ifCond .le 17, 3) := by decide +kernel
theorem dX11_table_59 : decode cX11_table 59 = .ok (.iload 4, 2) := by decide +kernel
theorem dX11_table_61 : decode cX11_table 61 = .ok (.aload_n 0, 1) := by decide +kernel
theorem dX11_table_62 : decode cX11_table 62 = .ok (.getfield 7, 3) := by decide +kernel
theorem dX11_table_65 : decode cX11_table 65 = .ok (.iload 5, 2) := by decide +kernel
theorem dX11_table_67 : decode cX11_table 67 = .ok (.iconst 1, 1) := by decide +kernel
theorem dX11_table_68 : decode cX11_table 68 = .ok (.isub, 1) := by decide +kernel
theorem dX11_table_69 : decode cX11_table 69 = .ok (.iaload, 1) := by decide +kernel
theorem dX11_table_70 : decode cX11_table 70 = .ok (.if_icmp .lt 23, 3) := by decide +kernel
theorem dX11_table_73 : decode cX11_table 73 = .ok (.iload_n 3, 1) := by decide +kernel
theorem dX11_table_74 : decode cX11_table 74 = .ok (.bipush 8, 2) := by decide +kernel
theorem dX11_table_76 : decode cX11_table 76 = .ok (.if_icmp .ge 20, 3) := by decide +kernel
theorem dX11_table_79 : decode cX11_table 79 = .ok (.iload 4, 2) := by decide +kernel
theorem dX11_table_81 : decode cX11_table 81 = .ok (.aload_n 0, 1) := by decide +kernel
theorem dX11_table_82 : decode cX11_table 82 = .ok (.getfield 7, 3) := by decide +kernel
theorem dX11_table_85 : decode cX11_table 85 = .ok (.iload 5, 2) := by decide +kernel
theorem dX11_table_87 : decode cX11_table 87 = .ok (.iconst 1, 1) := by decide +kernel
theorem dX11_table_88 : decode cX11_table 88 = .ok (.iadd, 1) := by decide +kernel
theorem dX11_table_89 : decode cX11_table 89 = .ok (.iaload, 1) := by decide +kernel
theorem dX11_table_90 : decode cX11_table 90 = .ok (.if_icmp .le 6, 3) := by decide +kernel
theorem dX11_table_93 : decode cX11_table 93 = .ok (.bipush (-2), 2) := by decide +kernel
theorem dX11_table_95 : decode cX11_table 95 = .ok (.ireturn, 1) := by decide +kernel
theorem dX11_table_96 : decode cX11_table 96 = .ok (.aload_n 0, 1) := by decide +kernel
theorem dX11_table_97 : decode cX11_table 97 = .ok (.getfield 7, 3) := by decide +kernel
theorem dX11_table_100 : decode cX11_table 100 = .ok (.iload 5, 2) := by decide +kernel
theorem dX11_table_102 : decode cX11_table 102 = .ok (.iaload, 1) := by decide +kernel
theorem dX11_table_103 : decode cX11_table 103 = .ok (.istore 6, 2) := by decide +kernel
theorem dX11_table_105 : decode cX11_table 105 = .ok (.aload_n 0, 1) := by decide +kernel
theorem dX11_table_106 : decode cX11_table 106 = .ok (.getfield 7, 3) := by decide +kernel
theorem dX11_table_109 : decode cX11_table 109 = .ok (.iload 5, 2) := by decide +kernel
theorem dX11_table_111 : decode cX11_table 111 = .ok (.iload 4, 2) := by decide +kernel
theorem dX11_table_113 : decode cX11_table 113 = .ok (.iastore, 1) := by decide +kernel
theorem dX11_table_114 : decode cX11_table 114 = .ok (.iload 6, 2) := by decide +kernel
theorem dX11_table_116 : decode cX11_table 116 = .ok (.ireturn, 1) := by decide +kernel
def fX11_table (a1 : Int) (a2 : Int) (a3 : Int) (a4 : Int) (s0 : Mem) : Option Res :=
 bnd (fX11_in a1 0 2 s0) (fun r1 s2 =>
 (if r1 = 0 then
 some ((-1), s2)
 else
 bnd (fX11_in a2 0 2 s2) (fun r3 s4 =>
 (if r3 = 0 then
 some ((-1), s4)
 else
 bnd (fX11_in a3 0 8 s4) (fun r5 s6 =>
 (if r5 = 0 then
 some ((-1), s6)
 else
 bnd (fX11_in a4 0 255 s6) (fun r7 s8 =>
 (if r7 ≠ 0 then
 lt (wr ((wr ((wr (27 * a1)) + (wr (9 * a2)))) + a3)) (fun v9 =>
 jn (fun (s10 : Mem) =>
 jn (fun (s11 : Mem) =>
 rd (s11 101) v9 81 (fun v12 =>
 ST s11 101 v9 81 a4 (fun s13 =>
 some (v12, s13)))) (fun k96 =>
 (if 8 ≤ a3 then
 k96 s10
 else
 rd (s10 101) (wr (v9 + 1)) 81 (fun v14 =>
 (if a4 ≤ v14 then
 k96 s10
 else
 some ((-2), s10)))))) (fun k73 =>
 (if a3 ≤ 0 then
 k73 s8
 else
 rd (s8 101) (wr (v9 - 1)) 81 (fun v15 =>
 (if a4 < v15 then
 some ((-2), s8)
 else
 k73 s8)))))
 else
 some ((-1), s8)))))))))
set_option maxRecDepth 100000 in
set_option maxHeartbeats 4000000 in
theorem mX11_table (l : Launch) (D : va_G) (ad : Nat → Nat) (cA : Nat → ClassId) (a1 : Int) (a2 : Int) (a3 : Int) (a4 : Int) (s0 : Mem) : MCi l D ad cA yX11_table cX11_table 7 (some .int) rmX11_table [.inr (.inr 100), .inl a1, .inl a2, .inl a3, .inl a4] s0 (fX11_table a1 a2 a3 a4 s0) := by
  refine MCi_ofE (own := RX11) (ls := [some (.inr (.inr 100)), some (.inl a1), some (.inl a2), some (.inl a3), some (.inl a4), none, none]) 2 (by decide +kernel) rfl rfl (fun _ => Nat.le_of_ble_eq_true rfl) (fun K hq => ?_)
  unfold fX11_table
  refine j_iload_n dX11_table_0 rfl rfl ?_
  refine j_iconst dX11_table_1 (inr_d rfl) ?_
  refine j_iconst dX11_table_2 (inr_d rfl) ?_
  refine j_callSi (mX11_in (kl K) (kD K) (kad K) (kcA K) a1 0 2 s0) cw_RX11_125 ⟨rfl, rfl, by decide, by decide⟩ rfl rfl (Nat.le_of_ble_eq_true rfl) dX11_table_3 (fun r1 s2 => ?_)
  refine j_if_eq (tgt := 40) dX11_table_6 rfl ?_ ?_
  · refine j_iconst dX11_table_40 (inr_d rfl) ?_
    exact j_iret hq dX11_table_41
  · refine j_iload_n dX11_table_9 rfl rfl ?_
    refine j_iconst dX11_table_10 (inr_d rfl) ?_
    refine j_iconst dX11_table_11 (inr_d rfl) ?_
    refine j_callSi (mX11_in (kl K) (kD K) (kad K) (kcA K) a2 0 2 s2) cw_RX11_125 ⟨rfl, rfl, by decide, by decide⟩ rfl rfl (Nat.le_of_ble_eq_true rfl) dX11_table_12 (fun r3 s4 => ?_)
    refine j_if_eq (tgt := 40) dX11_table_15 rfl ?_ ?_
    · refine j_iconst dX11_table_40 (inr_d rfl) ?_
      exact j_iret hq dX11_table_41
    · refine j_iload_n dX11_table_18 rfl rfl ?_
      refine j_iconst dX11_table_19 (inr_d rfl) ?_
      refine j_bipush (v := 8) dX11_table_20 (by decide +kernel) (inr_d rfl) ?_
      refine j_callSi (mX11_in (kl K) (kD K) (kad K) (kcA K) a3 0 8 s4) cw_RX11_125 ⟨rfl, rfl, by decide, by decide⟩ rfl rfl (Nat.le_of_ble_eq_true rfl) dX11_table_22 (fun r5 s6 => ?_)
      refine j_if_eq (tgt := 40) dX11_table_25 rfl ?_ ?_
      · refine j_iconst dX11_table_40 (inr_d rfl) ?_
        exact j_iret hq dX11_table_41
      · refine j_iload dX11_table_28 rfl ?_
        refine j_iconst dX11_table_30 (inr_d rfl) ?_
        refine j_sipush (v := 255) dX11_table_31 (by decide +kernel) (inr_d rfl) ?_
        refine j_callSi (mX11_in (kl K) (kD K) (kad K) (kcA K) a4 0 255 s6) cw_RX11_125 ⟨rfl, rfl, by decide, by decide⟩ rfl rfl (Nat.le_of_ble_eq_true rfl) dX11_table_34 (fun r7 s8 => ?_)
        refine j_if_ne (tgt := 42) dX11_table_37 rfl ?_ ?_
        · refine j_bipush (v := 27) dX11_table_42 (by decide +kernel) (inr_d rfl) ?_
          refine j_iload_n dX11_table_44 rfl rfl ?_
          refine j_imul dX11_table_45 ?_
          refine j_bipush (v := 9) dX11_table_46 (by decide +kernel) (inr_d rfl) ?_
          refine j_iload_n dX11_table_48 rfl rfl ?_
          refine j_imul dX11_table_49 ?_
          refine j_iadd dX11_table_50 ?_
          refine j_iload_n dX11_table_51 rfl rfl ?_
          refine j_iadd dX11_table_52 ?_
          refine j_ltv (fun v9 => ?_)
          refine j_istoreE (ls2 := [some (.inr (.inr 100)), some (.inl a1), some (.inl a2), some (.inl a3), some (.inl a4), some (.inl v9), none]) dX11_table_53 (by decide) rfl rfl ?_
          refine j_iload_n dX11_table_55 rfl rfl ?_
          refine j_jn (fun k73 => ∀ (s10 : Mem), J K rmX11_table cX11_table RX11 7 73 [some (.inr (.inr 100)), none, none, some (.inl a3), some (.inl a4), some (.inl v9), none] [] s10 (k73 s10)) (fun s10 => ?_) (fun k73 hk73 => ?_)
          · refine j_iload_n dX11_table_73 rfl rfl ?_
            refine j_bipush (v := 8) dX11_table_74 (by decide +kernel) (inr_d rfl) ?_
            refine j_jn (fun k96 => ∀ (s11 : Mem), J K rmX11_table cX11_table RX11 7 96 [some (.inr (.inr 100)), none, none, none, some (.inl a4), some (.inl v9), none] [] s11 (k96 s11)) (fun s11 => ?_) (fun k96 hk96 => ?_)
            · refine j_aload_n dX11_table_96 rfl rfl ?_
              refine j_getR fl_RX11_7 sh_100 rfl dX11_table_97 ?_
              refine j_iload dX11_table_100 rfl ?_
              refine j_iald sh_101 dX11_table_102 (fun v12 => ?_)
              refine j_istoreE (ls2 := [some (.inr (.inr 100)), none, none, none, some (.inl a4), some (.inl v9), some (.inl v12)]) dX11_table_103 (by decide) rfl rfl ?_
              refine j_aload_n dX11_table_105 rfl rfl ?_
              refine j_getR fl_RX11_7 sh_100 rfl dX11_table_106 ?_
              refine j_iload dX11_table_109 rfl ?_
              refine j_iload dX11_table_111 rfl ?_
              refine j_iast sh_101 dX11_table_113 (fun s13 => ?_)
              refine j_iload dX11_table_114 rfl ?_
              exact j_iret hq dX11_table_116
            refine j_icmp_ge (tgt := 96) dX11_table_76 rfl ?_ ?_
            · exact j_msk [true, false, false, false, true, true, false] (hk96 _)
            · refine j_iload dX11_table_79 rfl ?_
              refine j_aload_n dX11_table_81 rfl rfl ?_
              refine j_getR fl_RX11_7 sh_100 rfl dX11_table_82 ?_
              refine j_iload dX11_table_85 rfl ?_
              refine j_iconst dX11_table_87 (inr_d rfl) ?_
              refine j_iadd dX11_table_88 ?_
              refine j_iald sh_101 dX11_table_89 (fun v14 => ?_)
              refine j_icmp_le (tgt := 96) dX11_table_90 rfl ?_ ?_
              · exact j_msk [true, false, false, false, true, true, false] (hk96 _)
              · refine j_bipush (v := (-2)) dX11_table_93 (by decide +kernel) (inr_d rfl) ?_
                exact j_iret hq dX11_table_95
          refine j_if_le (tgt := 73) dX11_table_56 rfl ?_ ?_
          · exact j_msk [true, false, false, true, true, true, false] (hk73 _)
          · refine j_iload dX11_table_59 rfl ?_
            refine j_aload_n dX11_table_61 rfl rfl ?_
            refine j_getR fl_RX11_7 sh_100 rfl dX11_table_62 ?_
            refine j_iload dX11_table_65 rfl ?_
            refine j_iconst dX11_table_67 (inr_d rfl) ?_
            refine j_isub dX11_table_68 ?_
            refine j_iald sh_101 dX11_table_69 (fun v15 => ?_)
            refine j_icmp_lt (tgt := 93) dX11_table_70 rfl ?_ ?_
            · refine j_bipush (v := (-2)) dX11_table_93 (by decide +kernel) (inr_d rfl) ?_
              exact j_iret hq dX11_table_95
            · exact j_msk [true, false, false, true, true, true, false] (hk73 _)
        · refine j_iconst dX11_table_40 (inr_d rfl) ?_
          exact j_iret hq dX11_table_41
abbrev rmX11_bath : Room := { frames := 1, cells := 0, slots := 0, locals := 22 }
theorem dX11_bath_0 : decode cX11_bath 0 = .ok (.iload_n 1, 1) := by decide +kernel
theorem dX11_bath_1 : decode cX11_bath 1 = .ok (.iconst 0, 1) := by decide +kernel
theorem dX11_bath_2 : decode cX11_bath 2 = .ok (.iconst 1, 1) := by decide +kernel
theorem dX11_bath_3 : decode cX11_bath 3 = .ok (.invokestatic 125, 3) := by decide +kernel
theorem dX11_bath_6 : decode cX11_bath 6 = .ok (.ifCond .eq 32, 3) := by decide +kernel
theorem dX11_bath_9 : decode cX11_bath 9 = .ok (.iload_n 2, 1) := by decide +kernel
theorem dX11_bath_10 : decode cX11_bath 10 = .ok (.iconst 0, 1) := by decide +kernel
theorem dX11_bath_11 : decode cX11_bath 11 = .ok (.iconst 1, 1) := by decide +kernel
theorem dX11_bath_12 : decode cX11_bath 12 = .ok (.invokestatic 125, 3) := by decide +kernel
theorem dX11_bath_15 : decode cX11_bath 15 = .ok (.ifCond .eq 23, 3) := by decide +kernel
theorem dX11_bath_18 : decode cX11_bath 18 = .ok (.iload_n 3, 1) := by decide +kernel
theorem dX11_bath_19 : decode cX11_bath 19 = .ok (.iload_n 2, 1) := by decide +kernel
theorem dX11_bath_20 : decode cX11_bath 20 = .ok (.iload_n 2, 1) := by decide +kernel
theorem dX11_bath_21 : decode cX11_bath 21 = .ok (.ifCond .ne 9, 3) := by decide +kernel
theorem dX11_bath_24 : decode cX11_bath 24 = .ok (.sipush 1000, 3) := by decide +kernel
theorem dX11_bath_27 : decode cX11_bath 27 = .ok (.goto 5, 3) := by decide +kernel
theorem dX11_bath_30 : decode cX11_bath 30 = .ok (.bipush 50, 2) := by decide +kernel
theorem dX11_bath_32 : decode cX11_bath 32 = .ok (.invokestatic 125, 3) := by decide +kernel
theorem dX11_bath_35 : decode cX11_bath 35 = .ok (.ifCond .ne 5, 3) := by decide +kernel
theorem dX11_bath_38 : decode cX11_bath 38 = .ok (.iconst (-1), 1) := by decide +kernel
theorem dX11_bath_39 : decode cX11_bath 39 = .ok (.ireturn, 1) := by decide +kernel
theorem dX11_bath_40 : decode cX11_bath 40 = .ok (.iload_n 2, 1) := by decide +kernel
theorem dX11_bath_41 : decode cX11_bath 41 = .ok (.ifCond .ne 12, 3) := by decide +kernel
theorem dX11_bath_44 : decode cX11_bath 44 = .ok (.aload_n 0, 1) := by decide +kernel
theorem dX11_bath_45 : decode cX11_bath 45 = .ok (.getfield 13, 3) := by decide +kernel
theorem dX11_bath_48 : decode cX11_bath 48 = .ok (.iload_n 1, 1) := by decide +kernel
theorem dX11_bath_49 : decode cX11_bath 49 = .ok (.iaload, 1) := by decide +kernel
theorem dX11_bath_50 : decode cX11_bath 50 = .ok (.goto 9, 3) := by decide +kernel
theorem dX11_bath_53 : decode cX11_bath 53 = .ok (.aload_n 0, 1) := by decide +kernel
theorem dX11_bath_54 : decode cX11_bath 54 = .ok (.getfield 16, 3) := by decide +kernel
theorem dX11_bath_57 : decode cX11_bath 57 = .ok (.iload_n 1, 1) := by decide +kernel
theorem dX11_bath_58 : decode cX11_bath 58 = .ok (.iaload, 1) := by decide +kernel
theorem dX11_bath_59 : decode cX11_bath 59 = .ok (.istore 4, 2) := by decide +kernel
theorem dX11_bath_61 : decode cX11_bath 61 = .ok (.iload_n 2, 1) := by decide +kernel
theorem dX11_bath_62 : decode cX11_bath 62 = .ok (.ifCond .ne 13, 3) := by decide +kernel
theorem dX11_bath_65 : decode cX11_bath 65 = .ok (.aload_n 0, 1) := by decide +kernel
theorem dX11_bath_66 : decode cX11_bath 66 = .ok (.getfield 13, 3) := by decide +kernel
theorem dX11_bath_69 : decode cX11_bath 69 = .ok (.iload_n 1, 1) := by decide +kernel
theorem dX11_bath_70 : decode cX11_bath 70 = .ok (.iload_n 3, 1) := by decide +kernel
theorem dX11_bath_71 : decode cX11_bath 71 = .ok (.iastore, 1) := by decide +kernel
theorem dX11_bath_72 : decode cX11_bath 72 = .ok (.goto 10, 3) := by decide +kernel
theorem dX11_bath_75 : decode cX11_bath 75 = .ok (.aload_n 0, 1) := by decide +kernel
theorem dX11_bath_76 : decode cX11_bath 76 = .ok (.getfield 16, 3) := by decide +kernel
theorem dX11_bath_79 : decode cX11_bath 79 = .ok (.iload_n 1, 1) := by decide +kernel
theorem dX11_bath_80 : decode cX11_bath 80 = .ok (.iload_n 3, 1) := by decide +kernel
theorem dX11_bath_81 : decode cX11_bath 81 = .ok (.iastore, 1) := by decide +kernel
theorem dX11_bath_82 : decode cX11_bath 82 = .ok (.iload 4, 2) := by decide +kernel
theorem dX11_bath_84 : decode cX11_bath 84 = .ok (.ireturn, 1) := by decide +kernel
def fX11_bath (a1 : Int) (a2 : Int) (a3 : Int) (s0 : Mem) : Option Res :=
 bnd (fX11_in a1 0 1 s0) (fun r1 s2 =>
 (if r1 = 0 then
 some ((-1), s2)
 else
 bnd (fX11_in a2 0 1 s2) (fun r3 s4 =>
 (if r3 = 0 then
 some ((-1), s4)
 else
 jn (fun (u5 : Int) (s6 : Mem) =>
 bnd (fX11_in a3 a2 u5 s6) (fun r7 s8 =>
 (if r7 ≠ 0 then
 jn (fun (u9 : Int) (s10 : Mem) =>
 (if a2 ≠ 0 then
 ST s10 103 a1 2 a3 (fun s11 =>
 some (u9, s11))
 else
 ST s10 102 a1 2 a3 (fun s12 =>
 some (u9, s12)))) (fun k59 =>
 (if a2 ≠ 0 then
 rd (s8 103) a1 2 (fun v13 =>
 k59 v13 s8)
 else
 rd (s8 102) a1 2 (fun v14 =>
 k59 v14 s8)))
 else
 some ((-1), s8)))) (fun k32 =>
 (if a2 ≠ 0 then
 k32 50 s4
 else
 k32 1000 s4))))))
set_option maxRecDepth 100000 in
set_option maxHeartbeats 4000000 in
theorem mX11_bath (l : Launch) (D : va_G) (ad : Nat → Nat) (cA : Nat → ClassId) (a1 : Int) (a2 : Int) (a3 : Int) (s0 : Mem) : MCi l D ad cA yX11_bath cX11_bath 5 (some .int) rmX11_bath [.inr (.inr 100), .inl a1, .inl a2, .inl a3] s0 (fX11_bath a1 a2 a3 s0) := by
  refine MCi_ofE (own := RX11) (ls := [some (.inr (.inr 100)), some (.inl a1), some (.inl a2), some (.inl a3), none]) 1 (by decide +kernel) rfl rfl (fun _ => Nat.le_of_ble_eq_true rfl) (fun K hq => ?_)
  unfold fX11_bath
  refine j_iload_n dX11_bath_0 rfl rfl ?_
  refine j_iconst dX11_bath_1 (inr_d rfl) ?_
  refine j_iconst dX11_bath_2 (inr_d rfl) ?_
  refine j_callSi (mX11_in (kl K) (kD K) (kad K) (kcA K) a1 0 1 s0) cw_RX11_125 ⟨rfl, rfl, by decide, by decide⟩ rfl rfl (Nat.le_of_ble_eq_true rfl) dX11_bath_3 (fun r1 s2 => ?_)
  refine j_if_eq (tgt := 38) dX11_bath_6 rfl ?_ ?_
  · refine j_iconst dX11_bath_38 (inr_d rfl) ?_
    exact j_iret hq dX11_bath_39
  · refine j_iload_n dX11_bath_9 rfl rfl ?_
    refine j_iconst dX11_bath_10 (inr_d rfl) ?_
    refine j_iconst dX11_bath_11 (inr_d rfl) ?_
    refine j_callSi (mX11_in (kl K) (kD K) (kad K) (kcA K) a2 0 1 s2) cw_RX11_125 ⟨rfl, rfl, by decide, by decide⟩ rfl rfl (Nat.le_of_ble_eq_true rfl) dX11_bath_12 (fun r3 s4 => ?_)
    refine j_if_eq (tgt := 38) dX11_bath_15 rfl ?_ ?_
    · refine j_iconst dX11_bath_38 (inr_d rfl) ?_
      exact j_iret hq dX11_bath_39
    · refine j_iload_n dX11_bath_18 rfl rfl ?_
      refine j_iload_n dX11_bath_19 rfl rfl ?_
      refine j_iload_n dX11_bath_20 rfl rfl ?_
      refine j_jn (fun k32 => ∀ (u5 : Int) (s6 : Mem), J K rmX11_bath cX11_bath RX11 5 32 [some (.inr (.inr 100)), some (.inl a1), some (.inl a2), some (.inl a3), none] [.inl u5, .inl a2, .inl a3] s6 (k32 u5 s6)) (fun u5 s6 => ?_) (fun k32 hk32 => ?_)
      · refine j_callSi (mX11_in (kl K) (kD K) (kad K) (kcA K) a3 a2 u5 s6) cw_RX11_125 ⟨rfl, rfl, by decide, by decide⟩ rfl rfl (Nat.le_of_ble_eq_true rfl) dX11_bath_32 (fun r7 s8 => ?_)
        refine j_if_ne (tgt := 40) dX11_bath_35 rfl ?_ ?_
        · refine j_iload_n dX11_bath_40 rfl rfl ?_
          refine j_jn (fun k59 => ∀ (u9 : Int) (s10 : Mem), J K rmX11_bath cX11_bath RX11 5 59 [some (.inr (.inr 100)), some (.inl a1), some (.inl a2), some (.inl a3), none] [.inl u9] s10 (k59 u9 s10)) (fun u9 s10 => ?_) (fun k59 hk59 => ?_)
          · refine j_istoreE (ls2 := [some (.inr (.inr 100)), some (.inl a1), some (.inl a2), some (.inl a3), some (.inl u9)]) dX11_bath_59 (by decide) rfl rfl ?_
            refine j_iload_n dX11_bath_61 rfl rfl ?_
            refine j_if_ne (tgt := 75) dX11_bath_62 rfl ?_ ?_
            · refine j_aload_n dX11_bath_75 rfl rfl ?_
              refine j_getR fl_RX11_16 sh_100 rfl dX11_bath_76 ?_
              refine j_iload_n dX11_bath_79 rfl rfl ?_
              refine j_iload_n dX11_bath_80 rfl rfl ?_
              refine j_iast sh_103 dX11_bath_81 (fun s11 => ?_)
              refine j_iload dX11_bath_82 rfl ?_
              exact j_iret hq dX11_bath_84
            · refine j_aload_n dX11_bath_65 rfl rfl ?_
              refine j_getR fl_RX11_13 sh_100 rfl dX11_bath_66 ?_
              refine j_iload_n dX11_bath_69 rfl rfl ?_
              refine j_iload_n dX11_bath_70 rfl rfl ?_
              refine j_iast sh_102 dX11_bath_71 (fun s12 => ?_)
              refine j_goto (tgt := 82) dX11_bath_72 rfl ?_
              refine j_iload dX11_bath_82 rfl ?_
              exact j_iret hq dX11_bath_84
          refine j_if_ne (tgt := 53) dX11_bath_41 rfl ?_ ?_
          · refine j_aload_n dX11_bath_53 rfl rfl ?_
            refine j_getR fl_RX11_16 sh_100 rfl dX11_bath_54 ?_
            refine j_iload_n dX11_bath_57 rfl rfl ?_
            refine j_iald sh_103 dX11_bath_58 (fun v13 => ?_)
            exact j_msk [true, true, true, true, false] (hk59 _ _)
          · refine j_aload_n dX11_bath_44 rfl rfl ?_
            refine j_getR fl_RX11_13 sh_100 rfl dX11_bath_45 ?_
            refine j_iload_n dX11_bath_48 rfl rfl ?_
            refine j_iald sh_102 dX11_bath_49 (fun v14 => ?_)
            refine j_goto (tgt := 59) dX11_bath_50 rfl ?_
            exact j_msk [true, true, true, true, false] (hk59 _ _)
        · refine j_iconst dX11_bath_38 (inr_d rfl) ?_
          exact j_iret hq dX11_bath_39
      refine j_if_ne (tgt := 30) dX11_bath_21 rfl ?_ ?_
      · refine j_bipush (v := 50) dX11_bath_30 (by decide +kernel) (inr_d rfl) ?_
        exact j_msk [true, true, true, true, false] (hk32 _ _)
      · refine j_sipush (v := 1000) dX11_bath_24 (by decide +kernel) (inr_d rfl) ?_
        refine j_goto (tgt := 32) dX11_bath_27 rfl ?_
        exact j_msk [true, true, true, true, false] (hk32 _ _)
abbrev rmX11_lamp : Room := { frames := 1, cells := 0, slots := 0, locals := 22 }
theorem dX11_lamp_0 : decode cX11_lamp 0 = .ok (.iload_n 1, 1) := by decide +kernel
theorem dX11_lamp_1 : decode cX11_lamp 1 = .ok (.iconst 0, 1) := by decide +kernel
theorem dX11_lamp_2 : decode cX11_lamp 2 = .ok (.iconst 2, 1) := by decide +kernel
theorem dX11_lamp_3 : decode cX11_lamp 3 = .ok (.invokestatic 125, 3) := by decide +kernel
theorem dX11_lamp_6 : decode cX11_lamp 6 = .ok (.ifCond .eq 13, 3) := by decide +kernel
theorem dX11_lamp_9 : decode cX11_lamp 9 = .ok (.iload_n 2, 1) := by decide +kernel
theorem dX11_lamp_10 : decode cX11_lamp 10 = .ok (.iconst 0, 1) := by decide +kernel
theorem dX11_lamp_11 : decode cX11_lamp 11 = .ok (.bipush 20, 2) := by decide +kernel
theorem dX11_lamp_13 : decode cX11_lamp 13 = .ok (.invokestatic 125, 3) := by decide +kernel
theorem dX11_lamp_16 : decode cX11_lamp 16 = .ok (.ifCond .ne 5, 3) := by decide +kernel
theorem dX11_lamp_19 : decode cX11_lamp 19 = .ok (.iconst (-1), 1) := by decide +kernel
theorem dX11_lamp_20 : decode cX11_lamp 20 = .ok (.ireturn, 1) := by decide +kernel
theorem dX11_lamp_21 : decode cX11_lamp 21 = .ok (.aload_n 0, 1) := by decide +kernel
theorem dX11_lamp_22 : decode cX11_lamp 22 = .ok (.getfield 22, 3) := by decide +kernel
theorem dX11_lamp_25 : decode cX11_lamp 25 = .ok (.iload_n 1, 1) := by decide +kernel
theorem dX11_lamp_26 : decode cX11_lamp 26 = .ok (.iaload, 1) := by decide +kernel
theorem dX11_lamp_27 : decode cX11_lamp 27 = .ok (.istore_n 3, 1) := by decide +kernel
theorem dX11_lamp_28 : decode cX11_lamp 28 = .ok (.aload_n 0, 1) := by decide +kernel
theorem dX11_lamp_29 : decode cX11_lamp 29 = .ok (.getfield 22, 3) := by decide +kernel
theorem dX11_lamp_32 : decode cX11_lamp 32 = .ok (.iload_n 1, 1) := by decide +kernel
theorem dX11_lamp_33 : decode cX11_lamp 33 = .ok (.iload_n 2, 1) := by decide +kernel
theorem dX11_lamp_34 : decode cX11_lamp 34 = .ok (.iastore, 1) := by decide +kernel
theorem dX11_lamp_35 : decode cX11_lamp 35 = .ok (.iload_n 3, 1) := by decide +kernel
theorem dX11_lamp_36 : decode cX11_lamp 36 = .ok (.ireturn, 1) := by decide +kernel
def fX11_lamp (a1 : Int) (a2 : Int) (s0 : Mem) : Option Res :=
 bnd (fX11_in a1 0 2 s0) (fun r1 s2 =>
 (if r1 = 0 then
 some ((-1), s2)
 else
 bnd (fX11_in a2 0 20 s2) (fun r3 s4 =>
 (if r3 ≠ 0 then
 rd (s4 105) a1 3 (fun v5 =>
 ST s4 105 a1 3 a2 (fun s6 =>
 some (v5, s6)))
 else
 some ((-1), s4)))))
set_option maxRecDepth 100000 in
set_option maxHeartbeats 4000000 in
theorem mX11_lamp (l : Launch) (D : va_G) (ad : Nat → Nat) (cA : Nat → ClassId) (a1 : Int) (a2 : Int) (s0 : Mem) : MCi l D ad cA yX11_lamp cX11_lamp 4 (some .int) rmX11_lamp [.inr (.inr 100), .inl a1, .inl a2] s0 (fX11_lamp a1 a2 s0) := by
  refine MCi_ofE (own := RX11) (ls := [some (.inr (.inr 100)), some (.inl a1), some (.inl a2), none]) 1 (by decide +kernel) rfl rfl (fun _ => Nat.le_of_ble_eq_true rfl) (fun K hq => ?_)
  unfold fX11_lamp
  refine j_iload_n dX11_lamp_0 rfl rfl ?_
  refine j_iconst dX11_lamp_1 (inr_d rfl) ?_
  refine j_iconst dX11_lamp_2 (inr_d rfl) ?_
  refine j_callSi (mX11_in (kl K) (kD K) (kad K) (kcA K) a1 0 2 s0) cw_RX11_125 ⟨rfl, rfl, by decide, by decide⟩ rfl rfl (Nat.le_of_ble_eq_true rfl) dX11_lamp_3 (fun r1 s2 => ?_)
  refine j_if_eq (tgt := 19) dX11_lamp_6 rfl ?_ ?_
  · refine j_iconst dX11_lamp_19 (inr_d rfl) ?_
    exact j_iret hq dX11_lamp_20
  · refine j_iload_n dX11_lamp_9 rfl rfl ?_
    refine j_iconst dX11_lamp_10 (inr_d rfl) ?_
    refine j_bipush (v := 20) dX11_lamp_11 (by decide +kernel) (inr_d rfl) ?_
    refine j_callSi (mX11_in (kl K) (kD K) (kad K) (kcA K) a2 0 20 s2) cw_RX11_125 ⟨rfl, rfl, by decide, by decide⟩ rfl rfl (Nat.le_of_ble_eq_true rfl) dX11_lamp_13 (fun r3 s4 => ?_)
    refine j_if_ne (tgt := 21) dX11_lamp_16 rfl ?_ ?_
    · refine j_aload_n dX11_lamp_21 rfl rfl ?_
      refine j_getR fl_RX11_22 sh_100 rfl dX11_lamp_22 ?_
      refine j_iload_n dX11_lamp_25 rfl rfl ?_
      refine j_iald sh_105 dX11_lamp_26 (fun v5 => ?_)
      refine j_istore_nE (ls2 := [some (.inr (.inr 100)), some (.inl a1), some (.inl a2), some (.inl v5)]) dX11_lamp_27 rfl (by decide) rfl rfl ?_
      refine j_aload_n dX11_lamp_28 rfl rfl ?_
      refine j_getR fl_RX11_22 sh_100 rfl dX11_lamp_29 ?_
      refine j_iload_n dX11_lamp_32 rfl rfl ?_
      refine j_iload_n dX11_lamp_33 rfl rfl ?_
      refine j_iast sh_105 dX11_lamp_34 (fun s6 => ?_)
      refine j_iload_n dX11_lamp_35 rfl rfl ?_
      exact j_iret hq dX11_lamp_36
    · refine j_iconst dX11_lamp_19 (inr_d rfl) ?_
      exact j_iret hq dX11_lamp_20
abbrev rmX11_rule : Room := { frames := 1, cells := 0, slots := 0, locals := 22 }
theorem dX11_rule_0 : decode cX11_rule 0 = .ok (.iload_n 1, 1) := by decide +kernel
theorem dX11_rule_1 : decode cX11_rule 1 = .ok (.tableswitch 126 0 3 #[31, 55, 79, 102], 31) := by decide +kernel
theorem dX11_rule_32 : decode cX11_rule 32 = .ok (.aload_n 0, 1) := by decide +kernel
theorem dX11_rule_33 : decode cX11_rule 33 = .ok (.getfield 25, 3) := by decide +kernel
theorem dX11_rule_36 : decode cX11_rule 36 = .ok (.istore_n 3, 1) := by decide +kernel
theorem dX11_rule_37 : decode cX11_rule 37 = .ok (.iload_n 2, 1) := by decide +kernel
theorem dX11_rule_38 : decode cX11_rule 38 = .ok (.iconst 1, 1) := by decide +kernel
theorem dX11_rule_39 : decode cX11_rule 39 = .ok (.bipush 48, 2) := by decide +kernel
theorem dX11_rule_41 : decode cX11_rule 41 = .ok (.invokestatic 125, 3) := by decide +kernel
theorem dX11_rule_44 : decode cX11_rule 44 = .ok (.ifCond .ne 5, 3) := by decide +kernel
theorem dX11_rule_47 : decode cX11_rule 47 = .ok (.iconst (-1), 1) := by decide +kernel
theorem dX11_rule_48 : decode cX11_rule 48 = .ok (.ireturn, 1) := by decide +kernel
theorem dX11_rule_49 : decode cX11_rule 49 = .ok (.aload_n 0, 1) := by decide +kernel
theorem dX11_rule_50 : decode cX11_rule 50 = .ok (.iload_n 2, 1) := by decide +kernel
theorem dX11_rule_51 : decode cX11_rule 51 = .ok (.putfield 25, 3) := by decide +kernel
theorem dX11_rule_54 : decode cX11_rule 54 = .ok (.iload_n 3, 1) := by decide +kernel
theorem dX11_rule_55 : decode cX11_rule 55 = .ok (.ireturn, 1) := by decide +kernel
theorem dX11_rule_56 : decode cX11_rule 56 = .ok (.aload_n 0, 1) := by decide +kernel
theorem dX11_rule_57 : decode cX11_rule 57 = .ok (.getfield 29, 3) := by decide +kernel
theorem dX11_rule_60 : decode cX11_rule 60 = .ok (.istore_n 3, 1) := by decide +kernel
theorem dX11_rule_61 : decode cX11_rule 61 = .ok (.iload_n 2, 1) := by decide +kernel
theorem dX11_rule_62 : decode cX11_rule 62 = .ok (.iconst 0, 1) := by decide +kernel
theorem dX11_rule_63 : decode cX11_rule 63 = .ok (.bipush 60, 2) := by decide +kernel
theorem dX11_rule_65 : decode cX11_rule 65 = .ok (.invokestatic 125, 3) := by decide +kernel
theorem dX11_rule_68 : decode cX11_rule 68 = .ok (.ifCond .ne 5, 3) := by decide +kernel
theorem dX11_rule_71 : decode cX11_rule 71 = .ok (.iconst (-1), 1) := by decide +kernel
theorem dX11_rule_72 : decode cX11_rule 72 = .ok (.ireturn, 1) := by decide +kernel
theorem dX11_rule_73 : decode cX11_rule 73 = .ok (.aload_n 0, 1) := by decide +kernel
theorem dX11_rule_74 : decode cX11_rule 74 = .ok (.iload_n 2, 1) := by decide +kernel
theorem dX11_rule_75 : decode cX11_rule 75 = .ok (.putfield 29, 3) := by decide +kernel
theorem dX11_rule_78 : decode cX11_rule 78 = .ok (.iload_n 3, 1) := by decide +kernel
theorem dX11_rule_79 : decode cX11_rule 79 = .ok (.ireturn, 1) := by decide +kernel
theorem dX11_rule_80 : decode cX11_rule 80 = .ok (.aload_n 0, 1) := by decide +kernel
theorem dX11_rule_81 : decode cX11_rule 81 = .ok (.getfield 129, 3) := by decide +kernel
theorem dX11_rule_84 : decode cX11_rule 84 = .ok (.istore_n 3, 1) := by decide +kernel
theorem dX11_rule_85 : decode cX11_rule 85 = .ok (.iload_n 2, 1) := by decide +kernel
theorem dX11_rule_86 : decode cX11_rule 86 = .ok (.iconst 0, 1) := by decide +kernel
theorem dX11_rule_87 : decode cX11_rule 87 = .ok (.iconst 3, 1) := by decide +kernel
theorem dX11_rule_88 : decode cX11_rule 88 = .ok (.invokestatic 125, 3) := by decide +kernel
theorem dX11_rule_91 : decode cX11_rule 91 = .ok (.ifCond .ne 5, 3) := by decide +kernel
theorem dX11_rule_94 : decode cX11_rule 94 = .ok (.iconst (-1), 1) := by decide +kernel
theorem dX11_rule_95 : decode cX11_rule 95 = .ok (.ireturn, 1) := by decide +kernel
theorem dX11_rule_96 : decode cX11_rule 96 = .ok (.aload_n 0, 1) := by decide +kernel
theorem dX11_rule_97 : decode cX11_rule 97 = .ok (.iload_n 2, 1) := by decide +kernel
theorem dX11_rule_98 : decode cX11_rule 98 = .ok (.putfield 129, 3) := by decide +kernel
theorem dX11_rule_101 : decode cX11_rule 101 = .ok (.iload_n 3, 1) := by decide +kernel
theorem dX11_rule_102 : decode cX11_rule 102 = .ok (.ireturn, 1) := by decide +kernel
theorem dX11_rule_103 : decode cX11_rule 103 = .ok (.aload_n 0, 1) := by decide +kernel
theorem dX11_rule_104 : decode cX11_rule 104 = .ok (.getfield 32, 3) := by decide +kernel
theorem dX11_rule_107 : decode cX11_rule 107 = .ok (.istore_n 3, 1) := by decide +kernel
theorem dX11_rule_108 : decode cX11_rule 108 = .ok (.iload_n 2, 1) := by decide +kernel
theorem dX11_rule_109 : decode cX11_rule 109 = .ok (.iconst 1, 1) := by decide +kernel
theorem dX11_rule_110 : decode cX11_rule 110 = .ok (.bipush 20, 2) := by decide +kernel
theorem dX11_rule_112 : decode cX11_rule 112 = .ok (.invokestatic 125, 3) := by decide +kernel
theorem dX11_rule_115 : decode cX11_rule 115 = .ok (.ifCond .ne 5, 3) := by decide +kernel
theorem dX11_rule_118 : decode cX11_rule 118 = .ok (.iconst (-1), 1) := by decide +kernel
theorem dX11_rule_119 : decode cX11_rule 119 = .ok (.ireturn, 1) := by decide +kernel
theorem dX11_rule_120 : decode cX11_rule 120 = .ok (.aload_n 0, 1) := by decide +kernel
theorem dX11_rule_121 : decode cX11_rule 121 = .ok (.iload_n 2, 1) := by decide +kernel
theorem dX11_rule_122 : decode cX11_rule 122 = .ok (.putfield 32, 3) := by decide +kernel
theorem dX11_rule_125 : decode cX11_rule 125 = .ok (.iload_n 3, 1) := by decide +kernel
theorem dX11_rule_126 : decode cX11_rule 126 = .ok (.ireturn, 1) := by decide +kernel
theorem dX11_rule_127 : decode cX11_rule 127 = .ok (.iconst (-1), 1) := by decide +kernel
theorem dX11_rule_128 : decode cX11_rule 128 = .ok (.ireturn, 1) := by decide +kernel
def fX11_rule (a1 : Int) (a2 : Int) (s0 : Mem) : Option Res :=
 (if a1 = 0 then
 lt (s0 100 5) (fun v1 =>
 bnd (fX11_in a2 1 48 s0) (fun r2 s3 =>
 (if r2 ≠ 0 then
 lt (up s3 100 5 a2) (fun s4 =>
 some (v1, s4))
 else
 some ((-1), s3))))
 else
 (if a1 = 1 then
 lt (s0 100 6) (fun v5 =>
 bnd (fX11_in a2 0 60 s0) (fun r6 s7 =>
 (if r6 ≠ 0 then
 lt (up s7 100 6 a2) (fun s8 =>
 some (v5, s8))
 else
 some ((-1), s7))))
 else
 (if a1 = 2 then
 lt (s0 100 7) (fun v9 =>
 bnd (fX11_in a2 0 3 s0) (fun r10 s11 =>
 (if r10 ≠ 0 then
 lt (up s11 100 7 a2) (fun s12 =>
 some (v9, s12))
 else
 some ((-1), s11))))
 else
 (if a1 = 3 then
 lt (s0 100 8) (fun v13 =>
 bnd (fX11_in a2 1 20 s0) (fun r14 s15 =>
 (if r14 ≠ 0 then
 lt (up s15 100 8 a2) (fun s16 =>
 some (v13, s16))
 else
 some ((-1), s15))))
 else
 some ((-1), s0)))))
set_option maxRecDepth 100000 in
set_option maxHeartbeats 4000000 in
theorem mX11_rule (l : Launch) (D : va_G) (ad : Nat → Nat) (cA : Nat → ClassId) (a1 : Int) (a2 : Int) (s0 : Mem) : MCi l D ad cA yX11_rule cX11_rule 4 (some .int) rmX11_rule [.inr (.inr 100), .inl a1, .inl a2] s0 (fX11_rule a1 a2 s0) := by
  refine MCi_ofE (own := RX11) (ls := [some (.inr (.inr 100)), some (.inl a1), some (.inl a2), none]) 1 (by decide +kernel) rfl rfl (fun _ => Nat.le_of_ble_eq_true rfl) (fun K hq => ?_)
  unfold fX11_rule
  refine j_iload_n dX11_rule_0 rfl rfl ?_
  refine j_if (fun hc0 => ?_) (fun hc0 => ?_)
  · refine j_tsIn (tgt := 32) 0 hc0 dX11_rule_1 (by decide) (by decide) rfl rfl ?_
    refine j_aload_n dX11_rule_32 rfl rfl ?_
    refine j_getI fl_RX11_25 sh_100 rfl dX11_rule_33 ?_
    refine j_ltv (fun v1 => ?_)
    refine j_istore_nE (ls2 := [some (.inr (.inr 100)), some (.inl a1), some (.inl a2), some (.inl v1)]) dX11_rule_36 rfl (by decide) rfl rfl ?_
    refine j_iload_n dX11_rule_37 rfl rfl ?_
    refine j_iconst dX11_rule_38 (inr_d rfl) ?_
    refine j_bipush (v := 48) dX11_rule_39 (by decide +kernel) (inr_d rfl) ?_
    refine j_callSi (mX11_in (kl K) (kD K) (kad K) (kcA K) a2 1 48 s0) cw_RX11_125 ⟨rfl, rfl, by decide, by decide⟩ rfl rfl (Nat.le_of_ble_eq_true rfl) dX11_rule_41 (fun r2 s3 => ?_)
    refine j_if_ne (tgt := 49) dX11_rule_44 rfl ?_ ?_
    · refine j_aload_n dX11_rule_49 rfl rfl ?_
      refine j_iload_n dX11_rule_50 rfl rfl ?_
      refine j_putI fp_RX11_25 sh_100 rfl dX11_rule_51 (fun s4 => ?_)
      refine j_iload_n dX11_rule_54 rfl rfl ?_
      exact j_iret hq dX11_rule_55
    · refine j_iconst dX11_rule_47 (inr_d rfl) ?_
      exact j_iret hq dX11_rule_48
  refine j_if (fun hc1 => ?_) (fun hc1 => ?_)
  · refine j_tsIn (tgt := 56) 1 hc1 dX11_rule_1 (by decide) (by decide) rfl rfl ?_
    refine j_aload_n dX11_rule_56 rfl rfl ?_
    refine j_getI fl_RX11_29 sh_100 rfl dX11_rule_57 ?_
    refine j_ltv (fun v5 => ?_)
    refine j_istore_nE (ls2 := [some (.inr (.inr 100)), some (.inl a1), some (.inl a2), some (.inl v5)]) dX11_rule_60 rfl (by decide) rfl rfl ?_
    refine j_iload_n dX11_rule_61 rfl rfl ?_
    refine j_iconst dX11_rule_62 (inr_d rfl) ?_
    refine j_bipush (v := 60) dX11_rule_63 (by decide +kernel) (inr_d rfl) ?_
    refine j_callSi (mX11_in (kl K) (kD K) (kad K) (kcA K) a2 0 60 s0) cw_RX11_125 ⟨rfl, rfl, by decide, by decide⟩ rfl rfl (Nat.le_of_ble_eq_true rfl) dX11_rule_65 (fun r6 s7 => ?_)
    refine j_if_ne (tgt := 73) dX11_rule_68 rfl ?_ ?_
    · refine j_aload_n dX11_rule_73 rfl rfl ?_
      refine j_iload_n dX11_rule_74 rfl rfl ?_
      refine j_putI fp_RX11_29 sh_100 rfl dX11_rule_75 (fun s8 => ?_)
      refine j_iload_n dX11_rule_78 rfl rfl ?_
      exact j_iret hq dX11_rule_79
    · refine j_iconst dX11_rule_71 (inr_d rfl) ?_
      exact j_iret hq dX11_rule_72
  refine j_if (fun hc2 => ?_) (fun hc2 => ?_)
  · refine j_tsIn (tgt := 80) 2 hc2 dX11_rule_1 (by decide) (by decide) rfl rfl ?_
    refine j_aload_n dX11_rule_80 rfl rfl ?_
    refine j_getI fl_RX11_129 sh_100 rfl dX11_rule_81 ?_
    refine j_ltv (fun v9 => ?_)
    refine j_istore_nE (ls2 := [some (.inr (.inr 100)), some (.inl a1), some (.inl a2), some (.inl v9)]) dX11_rule_84 rfl (by decide) rfl rfl ?_
    refine j_iload_n dX11_rule_85 rfl rfl ?_
    refine j_iconst dX11_rule_86 (inr_d rfl) ?_
    refine j_iconst dX11_rule_87 (inr_d rfl) ?_
    refine j_callSi (mX11_in (kl K) (kD K) (kad K) (kcA K) a2 0 3 s0) cw_RX11_125 ⟨rfl, rfl, by decide, by decide⟩ rfl rfl (Nat.le_of_ble_eq_true rfl) dX11_rule_88 (fun r10 s11 => ?_)
    refine j_if_ne (tgt := 96) dX11_rule_91 rfl ?_ ?_
    · refine j_aload_n dX11_rule_96 rfl rfl ?_
      refine j_iload_n dX11_rule_97 rfl rfl ?_
      refine j_putI fp_RX11_129 sh_100 rfl dX11_rule_98 (fun s12 => ?_)
      refine j_iload_n dX11_rule_101 rfl rfl ?_
      exact j_iret hq dX11_rule_102
    · refine j_iconst dX11_rule_94 (inr_d rfl) ?_
      exact j_iret hq dX11_rule_95
  refine j_if (fun hc3 => ?_) (fun hc3 => ?_)
  · refine j_tsIn (tgt := 103) 3 hc3 dX11_rule_1 (by decide) (by decide) rfl rfl ?_
    refine j_aload_n dX11_rule_103 rfl rfl ?_
    refine j_getI fl_RX11_32 sh_100 rfl dX11_rule_104 ?_
    refine j_ltv (fun v13 => ?_)
    refine j_istore_nE (ls2 := [some (.inr (.inr 100)), some (.inl a1), some (.inl a2), some (.inl v13)]) dX11_rule_107 rfl (by decide) rfl rfl ?_
    refine j_iload_n dX11_rule_108 rfl rfl ?_
    refine j_iconst dX11_rule_109 (inr_d rfl) ?_
    refine j_bipush (v := 20) dX11_rule_110 (by decide +kernel) (inr_d rfl) ?_
    refine j_callSi (mX11_in (kl K) (kD K) (kad K) (kcA K) a2 1 20 s0) cw_RX11_125 ⟨rfl, rfl, by decide, by decide⟩ rfl rfl (Nat.le_of_ble_eq_true rfl) dX11_rule_112 (fun r14 s15 => ?_)
    refine j_if_ne (tgt := 120) dX11_rule_115 rfl ?_ ?_
    · refine j_aload_n dX11_rule_120 rfl rfl ?_
      refine j_iload_n dX11_rule_121 rfl rfl ?_
      refine j_putI fp_RX11_32 sh_100 rfl dX11_rule_122 (fun s16 => ?_)
      refine j_iload_n dX11_rule_125 rfl rfl ?_
      exact j_iret hq dX11_rule_126
    · refine j_iconst dX11_rule_118 (inr_d rfl) ?_
      exact j_iret hq dX11_rule_119
  refine j_tsOut (tgt := 127) dX11_rule_1 (by omega) rfl ?_
  refine j_iconst dX11_rule_127 (inr_d rfl) ?_
  exact j_iret hq dX11_rule_128
abbrev rmX11_activity : Room := { frames := 0, cells := 0, slots := 0, locals := 0 }
theorem dX11_activity_0 : decode cX11_activity 0 = .ok (.aload_n 0, 1) := by decide +kernel
theorem dX11_activity_1 : decode cX11_activity 1 = .ok (.getfield 13, 3) := by decide +kernel
theorem dX11_activity_4 : decode cX11_activity 4 = .ok (.iload_n 1, 1) := by decide +kernel
theorem dX11_activity_5 : decode cX11_activity 5 = .ok (.iaload, 1) := by decide +kernel
theorem dX11_activity_6 : decode cX11_activity 6 = .ok (.sipush 800, 3) := by decide +kernel
theorem dX11_activity_9 : decode cX11_activity 9 = .ok (.isub, 1) := by decide +kernel
theorem dX11_activity_10 : decode cX11_activity 10 = .ok (.istore_n 2, 1) := by decide +kernel
theorem dX11_activity_11 : decode cX11_activity 11 = .ok (.iload_n 2, 1) := by decide +kernel
theorem dX11_activity_12 : decode cX11_activity 12 = .ok (.ifCond .lt 10, 3) := by decide +kernel
theorem dX11_activity_15 : decode cX11_activity 15 = .ok (.iload_n 2, 1) := by decide +kernel
theorem dX11_activity_16 : decode cX11_activity 16 = .ok (.bipush 40, 2) := by decide +kernel
theorem dX11_activity_18 : decode cX11_activity 18 = .ok (.idiv, 1) := by decide +kernel
theorem dX11_activity_19 : decode cX11_activity 19 = .ok (.goto 11, 3) := by decide +kernel
theorem dX11_activity_22 : decode cX11_activity 22 = .ok (.bipush 39, 2) := by decide +kernel
theorem dX11_activity_24 : decode cX11_activity 24 = .ok (.iload_n 2, 1) := by decide +kernel
theorem dX11_activity_25 : decode cX11_activity 25 = .ok (.isub, 1) := by decide +kernel
theorem dX11_activity_26 : decode cX11_activity 26 = .ok (.bipush 40, 2) := by decide +kernel
theorem dX11_activity_28 : decode cX11_activity 28 = .ok (.idiv, 1) := by decide +kernel
theorem dX11_activity_29 : decode cX11_activity 29 = .ok (.ineg, 1) := by decide +kernel
theorem dX11_activity_30 : decode cX11_activity 30 = .ok (.ireturn, 1) := by decide +kernel
def fX11_activity (a1 : Int) (s0 : Mem) : Option Res :=
 rd (s0 102) a1 2 (fun v1 =>
 lt (wr (v1 - 800)) (fun v2 =>
 (if v2 < 0 then
 some (wr (-(Int.tdiv (wr (39 - v2)) 40)), s0)
 else
 some (Int.tdiv v2 40, s0))))
set_option maxRecDepth 100000 in
set_option maxHeartbeats 4000000 in
theorem mX11_activity (l : Launch) (D : va_G) (ad : Nat → Nat) (cA : Nat → ClassId) (a1 : Int) (s0 : Mem) : MCi l D ad cA yX11_activity cX11_activity 3 (some .int) rmX11_activity [.inr (.inr 100), .inl a1] s0 (fX11_activity a1 s0) := by
  refine MCi_ofE (own := RX11) (ls := [some (.inr (.inr 100)), some (.inl a1), none]) 1 (by decide +kernel) rfl rfl (fun _ => Nat.le_of_ble_eq_true rfl) (fun K hq => ?_)
  unfold fX11_activity
  refine j_aload_n dX11_activity_0 rfl rfl ?_
  refine j_getR fl_RX11_13 sh_100 rfl dX11_activity_1 ?_
  refine j_iload_n dX11_activity_4 rfl rfl ?_
  refine j_iald sh_102 dX11_activity_5 (fun v1 => ?_)
  refine j_sipush (v := 800) dX11_activity_6 (by decide +kernel) (inr_d rfl) ?_
  refine j_isub dX11_activity_9 ?_
  refine j_ltv (fun v2 => ?_)
  refine j_istore_nE (ls2 := [some (.inr (.inr 100)), some (.inl a1), some (.inl v2)]) dX11_activity_10 rfl (by decide) rfl rfl ?_
  refine j_iload_n dX11_activity_11 rfl rfl ?_
  refine j_if_lt (tgt := 22) dX11_activity_12 rfl ?_ ?_
  · refine j_bipush (v := 39) dX11_activity_22 (by decide +kernel) (inr_d rfl) ?_
    refine j_iload_n dX11_activity_24 rfl rfl ?_
    refine j_isub dX11_activity_25 ?_
    refine j_bipush (v := 40) dX11_activity_26 (by decide +kernel) (inr_d rfl) ?_
    refine j_idiv_p dX11_activity_28 (by decide) ?_
    refine j_ineg dX11_activity_29 ?_
    exact j_iret hq dX11_activity_30
  · refine j_iload_n dX11_activity_15 rfl rfl ?_
    refine j_bipush (v := 40) dX11_activity_16 (by decide +kernel) (inr_d rfl) ?_
    refine j_idiv_p dX11_activity_18 (by decide) ?_
    refine j_goto (tgt := 30) dX11_activity_19 rfl ?_
    exact j_iret hq dX11_activity_30
abbrev rmX11_bathTold : Room := { frames := 1, cells := 0, slots := 0, locals := 22 }
theorem dX11_bathTold_0 : decode cX11_bathTold 0 = .ok (.iload_n 1, 1) := by decide +kernel
theorem dX11_bathTold_1 : decode cX11_bathTold 1 = .ok (.iconst 0, 1) := by decide +kernel
theorem dX11_bathTold_2 : decode cX11_bathTold 2 = .ok (.iconst 1, 1) := by decide +kernel
theorem dX11_bathTold_3 : decode cX11_bathTold 3 = .ok (.invokestatic 125, 3) := by decide +kernel
theorem dX11_bathTold_6 : decode cX11_bathTold 6 = .ok (.ifCond .eq 12, 3) := by decide +kernel
theorem dX11_bathTold_9 : decode cX11_bathTold 9 = .ok (.iload_n 2, 1) := by decide +kernel
theorem dX11_bathTold_10 : decode cX11_bathTold 10 = .ok (.iconst 0, 1) := by decide +kernel
theorem dX11_bathTold_11 : decode cX11_bathTold 11 = .ok (.iconst 3, 1) := by decide +kernel
theorem dX11_bathTold_12 : decode cX11_bathTold 12 = .ok (.invokestatic 125, 3) := by decide +kernel
theorem dX11_bathTold_15 : decode cX11_bathTold 15 = .ok (.ifCond .ne 7, 3) := by decide +kernel
theorem dX11_bathTold_18 : decode cX11_bathTold 18 = .ok (.sipush (-1000), 3) := by decide +kernel
theorem dX11_bathTold_21 : decode cX11_bathTold 21 = .ok (.ireturn, 1) := by decide +kernel
theorem dX11_bathTold_22 : decode cX11_bathTold 22 = .ok (.iload_n 2, 1) := by decide +kernel
theorem dX11_bathTold_23 : decode cX11_bathTold 23 = .ok (.ifCond .ne 12, 3) := by decide +kernel
theorem dX11_bathTold_26 : decode cX11_bathTold 26 = .ok (.aload_n 0, 1) := by decide +kernel
theorem dX11_bathTold_27 : decode cX11_bathTold 27 = .ok (.getfield 13, 3) := by decide +kernel
theorem dX11_bathTold_30 : decode cX11_bathTold 30 = .ok (.iload_n 1, 1) := by decide +kernel
theorem dX11_bathTold_31 : decode cX11_bathTold 31 = .ok (.iaload, 1) := by decide +kernel
theorem dX11_bathTold_32 : decode cX11_bathTold 32 = .ok (.goto 36, 3) := by decide +kernel
theorem dX11_bathTold_35 : decode cX11_bathTold 35 = .ok (.iload_n 2, 1) := by decide +kernel
theorem dX11_bathTold_36 : decode cX11_bathTold 36 = .ok (.iconst 1, 1) := by decide +kernel
theorem dX11_bathTold_37 : decode cX11_bathTold 37 = .ok (.if_icmp .ne 12, 3) := by decide +kernel
theorem dX11_bathTold_40 : decode cX11_bathTold 40 = .ok (.aload_n 0, 1) := by decide +kernel
theorem dX11_bathTold_41 : decode cX11_bathTold 41 = .ok (.getfield 16, 3) := by decide +kernel
theorem dX11_bathTold_44 : decode cX11_bathTold 44 = .ok (.iload_n 1, 1) := by decide +kernel
theorem dX11_bathTold_45 : decode cX11_bathTold 45 = .ok (.iaload, 1) := by decide +kernel
theorem dX11_bathTold_46 : decode cX11_bathTold 46 = .ok (.goto 22, 3) := by decide +kernel
theorem dX11_bathTold_49 : decode cX11_bathTold 49 = .ok (.iload_n 2, 1) := by decide +kernel
theorem dX11_bathTold_50 : decode cX11_bathTold 50 = .ok (.iconst 2, 1) := by decide +kernel
theorem dX11_bathTold_51 : decode cX11_bathTold 51 = .ok (.if_icmp .ne 12, 3) := by decide +kernel
theorem dX11_bathTold_54 : decode cX11_bathTold 54 = .ok (.aload_n 0, 1) := by decide +kernel
theorem dX11_bathTold_55 : decode cX11_bathTold 55 = .ok (.getfield 19, 3) := by decide +kernel
theorem dX11_bathTold_58 : decode cX11_bathTold 58 = .ok (.iload_n 1, 1) := by decide +kernel
theorem dX11_bathTold_59 : decode cX11_bathTold 59 = .ok (.iaload, 1) := by decide +kernel
theorem dX11_bathTold_60 : decode cX11_bathTold 60 = .ok (.goto 8, 3) := by decide +kernel
theorem dX11_bathTold_63 : decode cX11_bathTold 63 = .ok (.aload_n 0, 1) := by decide +kernel
theorem dX11_bathTold_64 : decode cX11_bathTold 64 = .ok (.iload_n 1, 1) := by decide +kernel
theorem dX11_bathTold_65 : decode cX11_bathTold 65 = .ok (.invokevirtual 132, 3) := by decide +kernel
theorem dX11_bathTold_68 : decode cX11_bathTold 68 = .ok (.ireturn, 1) := by decide +kernel
def fX11_bathTold (a1 : Int) (a2 : Int) (s0 : Mem) : Option Res :=
 bnd (fX11_in a1 0 1 s0) (fun r1 s2 =>
 (if r1 = 0 then
 some ((-1000), s2)
 else
 bnd (fX11_in a2 0 3 s2) (fun r3 s4 =>
 (if r3 ≠ 0 then
 (if a2 ≠ 0 then
 (if a2 ≠ 1 then
 (if a2 ≠ 2 then
 bnd (fX11_activity a1 s4) (fun r5 s6 =>
 some (r5, s6))
 else
 rd (s4 104) a1 2 (fun v7 =>
 some (v7, s4)))
 else
 rd (s4 103) a1 2 (fun v8 =>
 some (v8, s4)))
 else
 rd (s4 102) a1 2 (fun v9 =>
 some (v9, s4)))
 else
 some ((-1000), s4)))))
set_option maxRecDepth 100000 in
set_option maxHeartbeats 4000000 in
theorem mX11_bathTold (l : Launch) (D : va_G) (ad : Nat → Nat) (cA : Nat → ClassId) (a1 : Int) (a2 : Int) (s0 : Mem) : MCi l D ad cA yX11_bathTold cX11_bathTold 3 (some .int) rmX11_bathTold [.inr (.inr 100), .inl a1, .inl a2] s0 (fX11_bathTold a1 a2 s0) := by
  refine MCi_ofE (own := RX11) (ls := [some (.inr (.inr 100)), some (.inl a1), some (.inl a2)]) 0 (by decide +kernel) rfl rfl (fun _ => Nat.le_of_ble_eq_true rfl) (fun K hq => ?_)
  unfold fX11_bathTold
  refine j_iload_n dX11_bathTold_0 rfl rfl ?_
  refine j_iconst dX11_bathTold_1 (inr_d rfl) ?_
  refine j_iconst dX11_bathTold_2 (inr_d rfl) ?_
  refine j_callSi (mX11_in (kl K) (kD K) (kad K) (kcA K) a1 0 1 s0) cw_RX11_125 ⟨rfl, rfl, by decide, by decide⟩ rfl rfl (Nat.le_of_ble_eq_true rfl) dX11_bathTold_3 (fun r1 s2 => ?_)
  refine j_if_eq (tgt := 18) dX11_bathTold_6 rfl ?_ ?_
  · refine j_sipush (v := (-1000)) dX11_bathTold_18 (by decide +kernel) (inr_d rfl) ?_
    exact j_iret hq dX11_bathTold_21
  · refine j_iload_n dX11_bathTold_9 rfl rfl ?_
    refine j_iconst dX11_bathTold_10 (inr_d rfl) ?_
    refine j_iconst dX11_bathTold_11 (inr_d rfl) ?_
    refine j_callSi (mX11_in (kl K) (kD K) (kad K) (kcA K) a2 0 3 s2) cw_RX11_125 ⟨rfl, rfl, by decide, by decide⟩ rfl rfl (Nat.le_of_ble_eq_true rfl) dX11_bathTold_12 (fun r3 s4 => ?_)
    refine j_if_ne (tgt := 22) dX11_bathTold_15 rfl ?_ ?_
    · refine j_iload_n dX11_bathTold_22 rfl rfl ?_
      refine j_if_ne (tgt := 35) dX11_bathTold_23 rfl ?_ ?_
      · refine j_iload_n dX11_bathTold_35 rfl rfl ?_
        refine j_iconst dX11_bathTold_36 (inr_d rfl) ?_
        refine j_icmp_ne (tgt := 49) dX11_bathTold_37 rfl ?_ ?_
        · refine j_iload_n dX11_bathTold_49 rfl rfl ?_
          refine j_iconst dX11_bathTold_50 (inr_d rfl) ?_
          refine j_icmp_ne (tgt := 63) dX11_bathTold_51 rfl ?_ ?_
          · refine j_aload_n dX11_bathTold_63 rfl rfl ?_
            refine j_iload_n dX11_bathTold_64 rfl rfl ?_
            refine j_callVi (mX11_activity (kl K) (kD K) (kad K) (kcA K) a1 s4) cw_RX11_132 sh_100 rfl ⟨rfl, rfl, by decide, by decide⟩ rfl rfl (Nat.le_of_ble_eq_true rfl) dX11_bathTold_65 (fun r5 s6 => ?_)
            exact j_iret hq dX11_bathTold_68
          · refine j_aload_n dX11_bathTold_54 rfl rfl ?_
            refine j_getR fl_RX11_19 sh_100 rfl dX11_bathTold_55 ?_
            refine j_iload_n dX11_bathTold_58 rfl rfl ?_
            refine j_iald sh_104 dX11_bathTold_59 (fun v7 => ?_)
            refine j_goto (tgt := 68) dX11_bathTold_60 rfl ?_
            exact j_iret hq dX11_bathTold_68
        · refine j_aload_n dX11_bathTold_40 rfl rfl ?_
          refine j_getR fl_RX11_16 sh_100 rfl dX11_bathTold_41 ?_
          refine j_iload_n dX11_bathTold_44 rfl rfl ?_
          refine j_iald sh_103 dX11_bathTold_45 (fun v8 => ?_)
          refine j_goto (tgt := 68) dX11_bathTold_46 rfl ?_
          exact j_iret hq dX11_bathTold_68
      · refine j_aload_n dX11_bathTold_26 rfl rfl ?_
        refine j_getR fl_RX11_13 sh_100 rfl dX11_bathTold_27 ?_
        refine j_iload_n dX11_bathTold_30 rfl rfl ?_
        refine j_iald sh_102 dX11_bathTold_31 (fun v9 => ?_)
        refine j_goto (tgt := 68) dX11_bathTold_32 rfl ?_
        exact j_iret hq dX11_bathTold_68
    · refine j_sipush (v := (-1000)) dX11_bathTold_18 (by decide +kernel) (inr_d rfl) ?_
      exact j_iret hq dX11_bathTold_21
abbrev rmX11_go : Room := { frames := 0, cells := 0, slots := 0, locals := 0 }
theorem dX11_go_0 : decode cX11_go 0 = .ok (.iconst 0, 1) := by decide +kernel
theorem dX11_go_1 : decode cX11_go 1 = .ok (.istore_n 3, 1) := by decide +kernel
theorem dX11_go_2 : decode cX11_go 2 = .ok (.iload_n 3, 1) := by decide +kernel
theorem dX11_go_3 : decode cX11_go 3 = .ok (.iload_n 2, 1) := by decide +kernel
theorem dX11_go_4 : decode cX11_go 4 = .ok (.if_icmp .ge 69, 3) := by decide +kernel
theorem dX11_go_7 : decode cX11_go 7 = .ok (.aload_n 0, 1) := by decide +kernel
theorem dX11_go_8 : decode cX11_go 8 = .ok (.getfield 19, 3) := by decide +kernel
theorem dX11_go_11 : decode cX11_go 11 = .ok (.iload_n 1, 1) := by decide +kernel
theorem dX11_go_12 : decode cX11_go 12 = .ok (.dup2, 1) := by decide +kernel
theorem dX11_go_13 : decode cX11_go 13 = .ok (.iaload, 1) := by decide +kernel
theorem dX11_go_14 : decode cX11_go 14 = .ok (.iconst 1, 1) := by decide +kernel
theorem dX11_go_15 : decode cX11_go 15 = .ok (.iadd, 1) := by decide +kernel
theorem dX11_go_16 : decode cX11_go 16 = .ok (.iastore, 1) := by decide +kernel
theorem dX11_go_17 : decode cX11_go 17 = .ok (.aload_n 0, 1) := by decide +kernel
theorem dX11_go_18 : decode cX11_go 18 = .ok (.getfield 19, 3) := by decide +kernel
theorem dX11_go_21 : decode cX11_go 21 = .ok (.iload_n 1, 1) := by decide +kernel
theorem dX11_go_22 : decode cX11_go 22 = .ok (.iaload, 1) := by decide +kernel
theorem dX11_go_23 : decode cX11_go 23 = .ok (.bipush 100, 2) := by decide +kernel
theorem dX11_go_25 : decode cX11_go 25 = .ok (.irem, 1) := by decide +kernel
theorem dX11_go_26 : decode cX11_go 26 = .ok (.ifCond .ne 41, 3) := by decide +kernel
theorem dX11_go_29 : decode cX11_go 29 = .ok (.aload_n 0, 1) := by decide +kernel
theorem dX11_go_30 : decode cX11_go 30 = .ok (.getfield 13, 3) := by decide +kernel
theorem dX11_go_33 : decode cX11_go 33 = .ok (.iload_n 1, 1) := by decide +kernel
theorem dX11_go_34 : decode cX11_go 34 = .ok (.aload_n 0, 1) := by decide +kernel
theorem dX11_go_35 : decode cX11_go 35 = .ok (.getfield 13, 3) := by decide +kernel
theorem dX11_go_38 : decode cX11_go 38 = .ok (.iload_n 1, 1) := by decide +kernel
theorem dX11_go_39 : decode cX11_go 39 = .ok (.iaload, 1) := by decide +kernel
theorem dX11_go_40 : decode cX11_go 40 = .ok (.aload_n 0, 1) := by decide +kernel
theorem dX11_go_41 : decode cX11_go 41 = .ok (.getfield 16, 3) := by decide +kernel
theorem dX11_go_44 : decode cX11_go 44 = .ok (.iload_n 1, 1) := by decide +kernel
theorem dX11_go_45 : decode cX11_go 45 = .ok (.iaload, 1) := by decide +kernel
theorem dX11_go_46 : decode cX11_go 46 = .ok (.if_icmp .le 19, 3) := by decide +kernel
theorem dX11_go_49 : decode cX11_go 49 = .ok (.aload_n 0, 1) := by decide +kernel
theorem dX11_go_50 : decode cX11_go 50 = .ok (.getfield 13, 3) := by decide +kernel
theorem dX11_go_53 : decode cX11_go 53 = .ok (.iload_n 1, 1) := by decide +kernel
theorem dX11_go_54 : decode cX11_go 54 = .ok (.iaload, 1) := by decide +kernel
theorem dX11_go_55 : decode cX11_go 55 = .ok (.aload_n 0, 1) := by decide +kernel
theorem dX11_go_56 : decode cX11_go 56 = .ok (.getfield 16, 3) := by decide +kernel
theorem dX11_go_59 : decode cX11_go 59 = .ok (.iload_n 1, 1) := by decide +kernel
theorem dX11_go_60 : decode cX11_go 60 = .ok (.iaload, 1) := by decide +kernel
theorem dX11_go_61 : decode cX11_go 61 = .ok (.isub, 1) := by decide +kernel
theorem dX11_go_62 : decode cX11_go 62 = .ok (.goto 4, 3) := by decide +kernel
theorem dX11_go_65 : decode cX11_go 65 = .ok (.iconst 0, 1) := by decide +kernel
theorem dX11_go_66 : decode cX11_go 66 = .ok (.iastore, 1) := by decide +kernel
theorem dX11_go_67 : decode cX11_go 67 = .ok (.iinc 3 1, 3) := by decide +kernel
theorem dX11_go_70 : decode cX11_go 70 = .ok (.goto (-68), 3) := by decide +kernel
theorem dX11_go_73 : decode cX11_go 73 = .ok (.return_, 1) := by decide +kernel
def LX11_go_2 (c1 : Int) (c2 : Int) (k73 : Mem → Option Res) : Nat → Int → Mem → Option Res
  | 0 => fun _ _ => none
  | n + 1 => fun x3 s => (if c2 ≤ x3 then
 k73 s
 else
 rd (s 104) c1 2 (fun v1 =>
 ST s 104 c1 2 (wr (v1 + 1)) (fun s2 =>
 rd (s2 104) c1 2 (fun v3 =>
 (if Int.tmod v3 100 ≠ 0 then
 LX11_go_2 c1 c2 k73 n (wr (x3 + 1)) s2
 else
 rd (s2 102) c1 2 (fun v4 =>
 rd (s2 103) c1 2 (fun v5 =>
 jn (fun (u6 : Int) (s7 : Mem) =>
 ST s7 102 c1 2 u6 (fun s8 =>
 LX11_go_2 c1 c2 k73 n (wr (x3 + 1)) s8)) (fun k66 =>
 (if v4 ≤ v5 then
 k66 0 s2
 else
 rd (s2 102) c1 2 (fun v9 =>
 rd (s2 103) c1 2 (fun v10 =>
 k66 (wr (v9 - v10)) s2)))))))))))
def fX11_go (a1 : Int) (a2 : Int) (s0 : Mem) : Option Res :=
 LX11_go_2 a1 a2 (fun s11 =>
 some (0, s11)) FU 0 s0
set_option maxRecDepth 100000 in
set_option maxHeartbeats 4000000 in
theorem jLX11_go_2 {K : KT} (hq : KV K none) (c1 : Int) (c2 : Int) (k73 : Mem → Option Res) (hk73 : ∀ (s : Mem), J K rmX11_go cX11_go RX11 4 73 [none, none, none, none] [] s (k73 s)) : ∀ (n : Nat) (x3 : Int) (s : Mem), J K rmX11_go cX11_go RX11 4 2 [some (.inr (.inr 100)), some (.inl c1), some (.inl c2), some (.inl x3)] [] s (LX11_go_2 c1 c2 k73 n x3 s) := by
  intro n
  induction n with
  | zero => intros; exact J_none
  | succ n ih =>
    intro x3 s
    show J K _ _ _ _ _ _ _ _ (LX11_go_2 c1 c2 k73 (n + 1) x3 s)
    simp only [LX11_go_2]
    refine j_iload_n dX11_go_2 rfl rfl ?_
    refine j_iload_n dX11_go_3 rfl rfl ?_
    refine j_icmp_ge (tgt := 73) dX11_go_4 rfl ?_ ?_
    · exact j_msk [false, false, false, false] (hk73 _)
    · refine j_aload_n dX11_go_7 rfl rfl ?_
      refine j_getR fl_RX11_19 sh_100 rfl dX11_go_8 ?_
      refine j_iload_n dX11_go_11 rfl rfl ?_
      refine j_dup2 (b := 0) dX11_go_12 ?_
      refine j_iald sh_104 dX11_go_13 (fun v1 => ?_)
      refine j_iconst dX11_go_14 (inr_d rfl) ?_
      refine j_iadd dX11_go_15 ?_
      refine j_iast sh_104 dX11_go_16 (fun s2 => ?_)
      refine j_aload_n dX11_go_17 rfl rfl ?_
      refine j_getR fl_RX11_19 sh_100 rfl dX11_go_18 ?_
      refine j_iload_n dX11_go_21 rfl rfl ?_
      refine j_iald sh_104 dX11_go_22 (fun v3 => ?_)
      refine j_bipush (v := 100) dX11_go_23 (by decide +kernel) (inr_d rfl) ?_
      refine j_irem_p dX11_go_25 (by decide) ?_
      refine j_if_ne (tgt := 67) dX11_go_26 rfl ?_ ?_
      · refine j_iincE (ls2 := [some (.inr (.inr 100)), some (.inl c1), some (.inl c2), some (.inl (wr (x3 + 1)))]) dX11_go_67 rfl (by decide) rfl rfl ?_
        refine j_goto (tgt := 2) dX11_go_70 rfl ?_
        exact j_msk [true, true, true, true] (ih _ _)
      · refine j_aload_n dX11_go_29 rfl rfl ?_
        refine j_getR fl_RX11_13 sh_100 rfl dX11_go_30 ?_
        refine j_iload_n dX11_go_33 rfl rfl ?_
        refine j_aload_n dX11_go_34 rfl rfl ?_
        refine j_getR fl_RX11_13 sh_100 rfl dX11_go_35 ?_
        refine j_iload_n dX11_go_38 rfl rfl ?_
        refine j_iald sh_102 dX11_go_39 (fun v4 => ?_)
        refine j_aload_n dX11_go_40 rfl rfl ?_
        refine j_getR fl_RX11_16 sh_100 rfl dX11_go_41 ?_
        refine j_iload_n dX11_go_44 rfl rfl ?_
        refine j_iald sh_103 dX11_go_45 (fun v5 => ?_)
        refine j_jn (fun k66 => ∀ (u6 : Int) (s7 : Mem), J K rmX11_go cX11_go RX11 4 66 [some (.inr (.inr 100)), some (.inl c1), some (.inl c2), some (.inl x3)] [.inl u6, .inl c1, .inr (.inr 102)] s7 (k66 u6 s7)) (fun u6 s7 => ?_) (fun k66 hk66 => ?_)
        · refine j_iast sh_102 dX11_go_66 (fun s8 => ?_)
          refine j_iincE (ls2 := [some (.inr (.inr 100)), some (.inl c1), some (.inl c2), some (.inl (wr (x3 + 1)))]) dX11_go_67 rfl (by decide) rfl rfl ?_
          refine j_goto (tgt := 2) dX11_go_70 rfl ?_
          exact j_msk [true, true, true, true] (ih _ _)
        refine j_icmp_le (tgt := 65) dX11_go_46 rfl ?_ ?_
        · refine j_iconst dX11_go_65 (inr_d rfl) ?_
          exact j_msk [true, true, true, true] (hk66 _ _)
        · refine j_aload_n dX11_go_49 rfl rfl ?_
          refine j_getR fl_RX11_13 sh_100 rfl dX11_go_50 ?_
          refine j_iload_n dX11_go_53 rfl rfl ?_
          refine j_iald sh_102 dX11_go_54 (fun v9 => ?_)
          refine j_aload_n dX11_go_55 rfl rfl ?_
          refine j_getR fl_RX11_16 sh_100 rfl dX11_go_56 ?_
          refine j_iload_n dX11_go_59 rfl rfl ?_
          refine j_iald sh_103 dX11_go_60 (fun v10 => ?_)
          refine j_isub dX11_go_61 ?_
          refine j_goto (tgt := 66) dX11_go_62 rfl ?_
          exact j_msk [true, true, true, true] (hk66 _ _)
set_option maxRecDepth 100000 in
set_option maxHeartbeats 4000000 in
theorem mX11_go (l : Launch) (D : va_G) (ad : Nat → Nat) (cA : Nat → ClassId) (a1 : Int) (a2 : Int) (s0 : Mem) : MCv l D ad cA yX11_go cX11_go 4 none rmX11_go [.inr (.inr 100), .inl a1, .inl a2] s0 (fX11_go a1 a2 s0) := by
  refine MCv_ofE (own := RX11) (ls := [some (.inr (.inr 100)), some (.inl a1), some (.inl a2), none]) 1 (by decide +kernel) rfl rfl (fun _ => Nat.le_of_ble_eq_true rfl) (fun K hq => ?_)
  unfold fX11_go
  refine j_iconst dX11_go_0 (inr_d rfl) ?_
  refine j_istore_nE (ls2 := [some (.inr (.inr 100)), some (.inl a1), some (.inl a2), some (.inl 0)]) dX11_go_1 rfl (by decide) rfl rfl ?_
  refine j_msk [true, true, true, true] (jLX11_go_2 hq _ _ _ (fun s11 => ?_) _ _ _)
  exact j_vret hq dX11_go_73
abbrev rmX11_feet : Room := { frames := 1, cells := 0, slots := 0, locals := 23 }
theorem dX11_feet_0 : decode cX11_feet 0 = .ok (.iload_n 1, 1) := by decide +kernel
theorem dX11_feet_1 : decode cX11_feet 1 = .ok (.iconst 0, 1) := by decide +kernel
theorem dX11_feet_2 : decode cX11_feet 2 = .ok (.iconst 1, 1) := by decide +kernel
theorem dX11_feet_3 : decode cX11_feet 3 = .ok (.invokestatic 125, 3) := by decide +kernel
theorem dX11_feet_6 : decode cX11_feet 6 = .ok (.ifCond .eq 14, 3) := by decide +kernel
theorem dX11_feet_9 : decode cX11_feet 9 = .ok (.iload_n 2, 1) := by decide +kernel
theorem dX11_feet_10 : decode cX11_feet 10 = .ok (.iconst 1, 1) := by decide +kernel
theorem dX11_feet_11 : decode cX11_feet 11 = .ok (.sipush 10000, 3) := by decide +kernel
theorem dX11_feet_14 : decode cX11_feet 14 = .ok (.invokestatic 125, 3) := by decide +kernel
theorem dX11_feet_17 : decode cX11_feet 17 = .ok (.ifCond .ne 5, 3) := by decide +kernel
theorem dX11_feet_20 : decode cX11_feet 20 = .ok (.iconst (-1), 1) := by decide +kernel
theorem dX11_feet_21 : decode cX11_feet 21 = .ok (.ireturn, 1) := by decide +kernel
theorem dX11_feet_22 : decode cX11_feet 22 = .ok (.aload_n 0, 1) := by decide +kernel
theorem dX11_feet_23 : decode cX11_feet 23 = .ok (.iload_n 1, 1) := by decide +kernel
theorem dX11_feet_24 : decode cX11_feet 24 = .ok (.iload_n 2, 1) := by decide +kernel
theorem dX11_feet_25 : decode cX11_feet 25 = .ok (.invokevirtual 136, 3) := by decide +kernel
theorem dX11_feet_28 : decode cX11_feet 28 = .ok (.aload_n 0, 1) := by decide +kernel
theorem dX11_feet_29 : decode cX11_feet 29 = .ok (.getfield 13, 3) := by decide +kernel
theorem dX11_feet_32 : decode cX11_feet 32 = .ok (.iload_n 1, 1) := by decide +kernel
theorem dX11_feet_33 : decode cX11_feet 33 = .ok (.iaload, 1) := by decide +kernel
theorem dX11_feet_34 : decode cX11_feet 34 = .ok (.ireturn, 1) := by decide +kernel
def fX11_feet (a1 : Int) (a2 : Int) (s0 : Mem) : Option Res :=
 bnd (fX11_in a1 0 1 s0) (fun r1 s2 =>
 (if r1 = 0 then
 some ((-1), s2)
 else
 bnd (fX11_in a2 1 10000 s2) (fun r3 s4 =>
 (if r3 ≠ 0 then
 bnd (fX11_go a1 a2 s4) (fun _ s6 =>
 rd (s6 102) a1 2 (fun v7 =>
 some (v7, s6)))
 else
 some ((-1), s4)))))
set_option maxRecDepth 100000 in
set_option maxHeartbeats 4000000 in
theorem mX11_feet (l : Launch) (D : va_G) (ad : Nat → Nat) (cA : Nat → ClassId) (a1 : Int) (a2 : Int) (s0 : Mem) : MCi l D ad cA yX11_feet cX11_feet 3 (some .int) rmX11_feet [.inr (.inr 100), .inl a1, .inl a2] s0 (fX11_feet a1 a2 s0) := by
  refine MCi_ofE (own := RX11) (ls := [some (.inr (.inr 100)), some (.inl a1), some (.inl a2)]) 0 (by decide +kernel) rfl rfl (fun _ => Nat.le_of_ble_eq_true rfl) (fun K hq => ?_)
  unfold fX11_feet
  refine j_iload_n dX11_feet_0 rfl rfl ?_
  refine j_iconst dX11_feet_1 (inr_d rfl) ?_
  refine j_iconst dX11_feet_2 (inr_d rfl) ?_
  refine j_callSi (mX11_in (kl K) (kD K) (kad K) (kcA K) a1 0 1 s0) cw_RX11_125 ⟨rfl, rfl, by decide, by decide⟩ rfl rfl (Nat.le_of_ble_eq_true rfl) dX11_feet_3 (fun r1 s2 => ?_)
  refine j_if_eq (tgt := 20) dX11_feet_6 rfl ?_ ?_
  · refine j_iconst dX11_feet_20 (inr_d rfl) ?_
    exact j_iret hq dX11_feet_21
  · refine j_iload_n dX11_feet_9 rfl rfl ?_
    refine j_iconst dX11_feet_10 (inr_d rfl) ?_
    refine j_sipush (v := 10000) dX11_feet_11 (by decide +kernel) (inr_d rfl) ?_
    refine j_callSi (mX11_in (kl K) (kD K) (kad K) (kcA K) a2 1 10000 s2) cw_RX11_125 ⟨rfl, rfl, by decide, by decide⟩ rfl rfl (Nat.le_of_ble_eq_true rfl) dX11_feet_14 (fun r3 s4 => ?_)
    refine j_if_ne (tgt := 22) dX11_feet_17 rfl ?_ ?_
    · refine j_aload_n dX11_feet_22 rfl rfl ?_
      refine j_iload_n dX11_feet_23 rfl rfl ?_
      refine j_iload_n dX11_feet_24 rfl rfl ?_
      refine j_callVv (mX11_go (kl K) (kD K) (kad K) (kcA K) a1 a2 s4) cw_RX11_136 sh_100 rfl ⟨rfl, rfl, by decide, by decide⟩ rfl rfl (Nat.le_of_ble_eq_true rfl) dX11_feet_25 (fun _ s6 => ?_)
      refine j_aload_n dX11_feet_28 rfl rfl ?_
      refine j_getR fl_RX11_13 sh_100 rfl dX11_feet_29 ?_
      refine j_iload_n dX11_feet_32 rfl rfl ?_
      refine j_iald sh_102 dX11_feet_33 (fun v7 => ?_)
      exact j_iret hq dX11_feet_34
    · refine j_iconst dX11_feet_20 (inr_d rfl) ?_
      exact j_iret hq dX11_feet_21
abbrev rmX11_exposed : Room := { frames := 1, cells := 0, slots := 0, locals := 22 }
theorem dX11_exposed_0 : decode cX11_exposed 0 = .ok (.iload_n 2, 1) := by decide +kernel
theorem dX11_exposed_1 : decode cX11_exposed 1 = .ok (.bipush 20, 2) := by decide +kernel
theorem dX11_exposed_3 : decode cX11_exposed 3 = .ok (.iadd, 1) := by decide +kernel
theorem dX11_exposed_4 : decode cX11_exposed 4 = .ok (.iload_n 3, 1) := by decide +kernel
theorem dX11_exposed_5 : decode cX11_exposed 5 = .ok (.isub, 1) := by decide +kernel
theorem dX11_exposed_6 : decode cX11_exposed 6 = .ok (.aload_n 0, 1) := by decide +kernel
theorem dX11_exposed_7 : decode cX11_exposed 7 = .ok (.getfield 22, 3) := by decide +kernel
theorem dX11_exposed_10 : decode cX11_exposed 10 = .ok (.iload_n 1, 1) := by decide +kernel
theorem dX11_exposed_11 : decode cX11_exposed 11 = .ok (.iaload, 1) := by decide +kernel
theorem dX11_exposed_12 : decode cX11_exposed 12 = .ok (.isub, 1) := by decide +kernel
theorem dX11_exposed_13 : decode cX11_exposed 13 = .ok (.aload_n 0, 1) := by decide +kernel
theorem dX11_exposed_14 : decode cX11_exposed 14 = .ok (.iload 4, 2) := by decide +kernel
theorem dX11_exposed_16 : decode cX11_exposed 16 = .ok (.invokevirtual 132, 3) := by decide +kernel
theorem dX11_exposed_19 : decode cX11_exposed 19 = .ok (.iadd, 1) := by decide +kernel
theorem dX11_exposed_20 : decode cX11_exposed 20 = .ok (.ireturn, 1) := by decide +kernel
def fX11_exposed (a1 : Int) (a2 : Int) (a3 : Int) (a4 : Int) (s0 : Mem) : Option Res :=
 rd (s0 105) a1 3 (fun v1 =>
 bnd (fX11_activity a4 s0) (fun r2 s3 =>
 some (wr ((wr ((wr ((wr (a2 + 20)) - a3)) - v1)) + r2), s3)))
set_option maxRecDepth 100000 in
set_option maxHeartbeats 4000000 in
theorem mX11_exposed (l : Launch) (D : va_G) (ad : Nat → Nat) (cA : Nat → ClassId) (a1 : Int) (a2 : Int) (a3 : Int) (a4 : Int) (s0 : Mem) : MCi l D ad cA yX11_exposed cX11_exposed 5 (some .int) rmX11_exposed [.inr (.inr 100), .inl a1, .inl a2, .inl a3, .inl a4] s0 (fX11_exposed a1 a2 a3 a4 s0) := by
  refine MCi_ofE (own := RX11) (ls := [some (.inr (.inr 100)), some (.inl a1), some (.inl a2), some (.inl a3), some (.inl a4)]) 0 (by decide +kernel) rfl rfl (fun _ => Nat.le_of_ble_eq_true rfl) (fun K hq => ?_)
  unfold fX11_exposed
  refine j_iload_n dX11_exposed_0 rfl rfl ?_
  refine j_bipush (v := 20) dX11_exposed_1 (by decide +kernel) (inr_d rfl) ?_
  refine j_iadd dX11_exposed_3 ?_
  refine j_iload_n dX11_exposed_4 rfl rfl ?_
  refine j_isub dX11_exposed_5 ?_
  refine j_aload_n dX11_exposed_6 rfl rfl ?_
  refine j_getR fl_RX11_22 sh_100 rfl dX11_exposed_7 ?_
  refine j_iload_n dX11_exposed_10 rfl rfl ?_
  refine j_iald sh_105 dX11_exposed_11 (fun v1 => ?_)
  refine j_isub dX11_exposed_12 ?_
  refine j_aload_n dX11_exposed_13 rfl rfl ?_
  refine j_iload dX11_exposed_14 rfl ?_
  refine j_callVi (mX11_activity (kl K) (kD K) (kad K) (kcA K) a4 s0) cw_RX11_132 sh_100 rfl ⟨rfl, rfl, by decide, by decide⟩ rfl rfl (Nat.le_of_ble_eq_true rfl) dX11_exposed_16 (fun r2 s3 => ?_)
  refine j_iadd dX11_exposed_19 ?_
  exact j_iret hq dX11_exposed_20
abbrev rmX11_toneAt : Room := { frames := 0, cells := 0, slots := 0, locals := 0 }
theorem dX11_toneAt_0 : decode cX11_toneAt 0 = .ok (.iload_n 3, 1) := by decide +kernel
theorem dX11_toneAt_1 : decode cX11_toneAt 1 = .ok (.ifCond .ge 7, 3) := by decide +kernel
theorem dX11_toneAt_4 : decode cX11_toneAt 4 = .ok (.iconst 0, 1) := by decide +kernel
theorem dX11_toneAt_5 : decode cX11_toneAt 5 = .ok (.goto 15, 3) := by decide +kernel
theorem dX11_toneAt_8 : decode cX11_toneAt 8 = .ok (.iload_n 3, 1) := by decide +kernel
theorem dX11_toneAt_9 : decode cX11_toneAt 9 = .ok (.bipush 64, 2) := by decide +kernel
theorem dX11_toneAt_11 : decode cX11_toneAt 11 = .ok (.if_icmp .le 8, 3) := by decide +kernel
theorem dX11_toneAt_14 : decode cX11_toneAt 14 = .ok (.bipush 64, 2) := by decide +kernel
theorem dX11_toneAt_16 : decode cX11_toneAt 16 = .ok (.goto 4, 3) := by decide +kernel
theorem dX11_toneAt_19 : decode cX11_toneAt 19 = .ok (.iload_n 3, 1) := by decide +kernel
theorem dX11_toneAt_20 : decode cX11_toneAt 20 = .ok (.istore 4, 2) := by decide +kernel
theorem dX11_toneAt_22 : decode cX11_toneAt 22 = .ok (.bipush 27, 2) := by decide +kernel
theorem dX11_toneAt_24 : decode cX11_toneAt 24 = .ok (.iload_n 1, 1) := by decide +kernel
theorem dX11_toneAt_25 : decode cX11_toneAt 25 = .ok (.imul, 1) := by decide +kernel
theorem dX11_toneAt_26 : decode cX11_toneAt 26 = .ok (.bipush 9, 2) := by decide +kernel
theorem dX11_toneAt_28 : decode cX11_toneAt 28 = .ok (.iload_n 2, 1) := by decide +kernel
theorem dX11_toneAt_29 : decode cX11_toneAt 29 = .ok (.imul, 1) := by decide +kernel
theorem dX11_toneAt_30 : decode cX11_toneAt 30 = .ok (.iadd, 1) := by decide +kernel
theorem dX11_toneAt_31 : decode cX11_toneAt 31 = .ok (.iload 4, 2) := by decide +kernel
theorem dX11_toneAt_33 : decode cX11_toneAt 33 = .ok (.bipush 8, 2) := by decide +kernel
theorem dX11_toneAt_35 : decode cX11_toneAt 35 = .ok (.idiv, 1) := by decide +kernel
theorem dX11_toneAt_36 : decode cX11_toneAt 36 = .ok (.iadd, 1) := by decide +kernel
theorem dX11_toneAt_37 : decode cX11_toneAt 37 = .ok (.istore 5, 2) := by decide +kernel
theorem dX11_toneAt_39 : decode cX11_toneAt 39 = .ok (.iload 4, 2) := by decide +kernel
theorem dX11_toneAt_41 : decode cX11_toneAt 41 = .ok (.bipush 8, 2) := by decide +kernel
theorem dX11_toneAt_43 : decode cX11_toneAt 43 = .ok (.irem, 1) := by decide +kernel
theorem dX11_toneAt_44 : decode cX11_toneAt 44 = .ok (.ifCond .ne 13, 3) := by decide +kernel
theorem dX11_toneAt_47 : decode cX11_toneAt 47 = .ok (.aload_n 0, 1) := by decide +kernel
theorem dX11_toneAt_48 : decode cX11_toneAt 48 = .ok (.getfield 7, 3) := by decide +kernel
theorem dX11_toneAt_51 : decode cX11_toneAt 51 = .ok (.iload 5, 2) := by decide +kernel
theorem dX11_toneAt_53 : decode cX11_toneAt 53 = .ok (.iaload, 1) := by decide +kernel
theorem dX11_toneAt_54 : decode cX11_toneAt 54 = .ok (.goto 37, 3) := by decide +kernel
theorem dX11_toneAt_57 : decode cX11_toneAt 57 = .ok (.aload_n 0, 1) := by decide +kernel
theorem dX11_toneAt_58 : decode cX11_toneAt 58 = .ok (.getfield 7, 3) := by decide +kernel
theorem dX11_toneAt_61 : decode cX11_toneAt 61 = .ok (.iload 5, 2) := by decide +kernel
theorem dX11_toneAt_63 : decode cX11_toneAt 63 = .ok (.iaload, 1) := by decide +kernel
theorem dX11_toneAt_64 : decode cX11_toneAt 64 = .ok (.aload_n 0, 1) := by decide +kernel
theorem dX11_toneAt_65 : decode cX11_toneAt 65 = .ok (.getfield 7, 3) := by decide +kernel
theorem dX11_toneAt_68 : decode cX11_toneAt 68 = .ok (.iload 5, 2) := by decide +kernel
theorem dX11_toneAt_70 : decode cX11_toneAt 70 = .ok (.iconst 1, 1) := by decide +kernel
theorem dX11_toneAt_71 : decode cX11_toneAt 71 = .ok (.iadd, 1) := by decide +kernel
theorem dX11_toneAt_72 : decode cX11_toneAt 72 = .ok (.iaload, 1) := by decide +kernel
theorem dX11_toneAt_73 : decode cX11_toneAt 73 = .ok (.aload_n 0, 1) := by decide +kernel
theorem dX11_toneAt_74 : decode cX11_toneAt 74 = .ok (.getfield 7, 3) := by decide +kernel
theorem dX11_toneAt_77 : decode cX11_toneAt 77 = .ok (.iload 5, 2) := by decide +kernel
theorem dX11_toneAt_79 : decode cX11_toneAt 79 = .ok (.iaload, 1) := by decide +kernel
theorem dX11_toneAt_80 : decode cX11_toneAt 80 = .ok (.isub, 1) := by decide +kernel
theorem dX11_toneAt_81 : decode cX11_toneAt 81 = .ok (.iload 4, 2) := by decide +kernel
theorem dX11_toneAt_83 : decode cX11_toneAt 83 = .ok (.bipush 8, 2) := by decide +kernel
theorem dX11_toneAt_85 : decode cX11_toneAt 85 = .ok (.irem, 1) := by decide +kernel
theorem dX11_toneAt_86 : decode cX11_toneAt 86 = .ok (.imul, 1) := by decide +kernel
theorem dX11_toneAt_87 : decode cX11_toneAt 87 = .ok (.bipush 8, 2) := by decide +kernel
theorem dX11_toneAt_89 : decode cX11_toneAt 89 = .ok (.idiv, 1) := by decide +kernel
theorem dX11_toneAt_90 : decode cX11_toneAt 90 = .ok (.iadd, 1) := by decide +kernel
theorem dX11_toneAt_91 : decode cX11_toneAt 91 = .ok (.ireturn, 1) := by decide +kernel
def fX11_toneAt (a1 : Int) (a2 : Int) (a3 : Int) (s0 : Mem) : Option Res :=
 jn (fun (u1 : Int) (s2 : Mem) =>
 lt (wr ((wr ((wr (27 * a1)) + (wr (9 * a2)))) + (Int.tdiv u1 8))) (fun v3 =>
 (if Int.tmod u1 8 ≠ 0 then
 rd (s2 101) v3 81 (fun v4 =>
 rd (s2 101) (wr (v3 + 1)) 81 (fun v5 =>
 rd (s2 101) v3 81 (fun v6 =>
 some (wr (v4 + (Int.tdiv (wr ((wr (v5 - v6)) * (Int.tmod u1 8))) 8)), s2))))
 else
 rd (s2 101) v3 81 (fun v7 =>
 some (v7, s2))))) (fun k20 =>
 (if 0 ≤ a3 then
 (if a3 ≤ 64 then
 k20 a3 s0
 else
 k20 64 s0)
 else
 k20 0 s0))
set_option maxRecDepth 100000 in
set_option maxHeartbeats 4000000 in
theorem mX11_toneAt (l : Launch) (D : va_G) (ad : Nat → Nat) (cA : Nat → ClassId) (a1 : Int) (a2 : Int) (a3 : Int) (s0 : Mem) : MCi l D ad cA yX11_toneAt cX11_toneAt 6 (some .int) rmX11_toneAt [.inr (.inr 100), .inl a1, .inl a2, .inl a3] s0 (fX11_toneAt a1 a2 a3 s0) := by
  refine MCi_ofE (own := RX11) (ls := [some (.inr (.inr 100)), some (.inl a1), some (.inl a2), some (.inl a3), none, none]) 2 (by decide +kernel) rfl rfl (fun _ => Nat.le_of_ble_eq_true rfl) (fun K hq => ?_)
  unfold fX11_toneAt
  refine j_iload_n dX11_toneAt_0 rfl rfl ?_
  refine j_jn (fun k20 => ∀ (u1 : Int) (s2 : Mem), J K rmX11_toneAt cX11_toneAt RX11 6 20 [some (.inr (.inr 100)), some (.inl a1), some (.inl a2), none, none, none] [.inl u1] s2 (k20 u1 s2)) (fun u1 s2 => ?_) (fun k20 hk20 => ?_)
  · refine j_istoreE (ls2 := [some (.inr (.inr 100)), some (.inl a1), some (.inl a2), none, some (.inl u1), none]) dX11_toneAt_20 (by decide) rfl rfl ?_
    refine j_bipush (v := 27) dX11_toneAt_22 (by decide +kernel) (inr_d rfl) ?_
    refine j_iload_n dX11_toneAt_24 rfl rfl ?_
    refine j_imul dX11_toneAt_25 ?_
    refine j_bipush (v := 9) dX11_toneAt_26 (by decide +kernel) (inr_d rfl) ?_
    refine j_iload_n dX11_toneAt_28 rfl rfl ?_
    refine j_imul dX11_toneAt_29 ?_
    refine j_iadd dX11_toneAt_30 ?_
    refine j_iload dX11_toneAt_31 rfl ?_
    refine j_bipush (v := 8) dX11_toneAt_33 (by decide +kernel) (inr_d rfl) ?_
    refine j_idiv_p dX11_toneAt_35 (by decide) ?_
    refine j_iadd dX11_toneAt_36 ?_
    refine j_ltv (fun v3 => ?_)
    refine j_istoreE (ls2 := [some (.inr (.inr 100)), some (.inl a1), some (.inl a2), none, some (.inl u1), some (.inl v3)]) dX11_toneAt_37 (by decide) rfl rfl ?_
    refine j_iload dX11_toneAt_39 rfl ?_
    refine j_bipush (v := 8) dX11_toneAt_41 (by decide +kernel) (inr_d rfl) ?_
    refine j_irem_p dX11_toneAt_43 (by decide) ?_
    refine j_if_ne (tgt := 57) dX11_toneAt_44 rfl ?_ ?_
    · refine j_aload_n dX11_toneAt_57 rfl rfl ?_
      refine j_getR fl_RX11_7 sh_100 rfl dX11_toneAt_58 ?_
      refine j_iload dX11_toneAt_61 rfl ?_
      refine j_iald sh_101 dX11_toneAt_63 (fun v4 => ?_)
      refine j_aload_n dX11_toneAt_64 rfl rfl ?_
      refine j_getR fl_RX11_7 sh_100 rfl dX11_toneAt_65 ?_
      refine j_iload dX11_toneAt_68 rfl ?_
      refine j_iconst dX11_toneAt_70 (inr_d rfl) ?_
      refine j_iadd dX11_toneAt_71 ?_
      refine j_iald sh_101 dX11_toneAt_72 (fun v5 => ?_)
      refine j_aload_n dX11_toneAt_73 rfl rfl ?_
      refine j_getR fl_RX11_7 sh_100 rfl dX11_toneAt_74 ?_
      refine j_iload dX11_toneAt_77 rfl ?_
      refine j_iald sh_101 dX11_toneAt_79 (fun v6 => ?_)
      refine j_isub dX11_toneAt_80 ?_
      refine j_iload dX11_toneAt_81 rfl ?_
      refine j_bipush (v := 8) dX11_toneAt_83 (by decide +kernel) (inr_d rfl) ?_
      refine j_irem_p dX11_toneAt_85 (by decide) ?_
      refine j_imul dX11_toneAt_86 ?_
      refine j_bipush (v := 8) dX11_toneAt_87 (by decide +kernel) (inr_d rfl) ?_
      refine j_idiv_p dX11_toneAt_89 (by decide) ?_
      refine j_iadd dX11_toneAt_90 ?_
      exact j_iret hq dX11_toneAt_91
    · refine j_aload_n dX11_toneAt_47 rfl rfl ?_
      refine j_getR fl_RX11_7 sh_100 rfl dX11_toneAt_48 ?_
      refine j_iload dX11_toneAt_51 rfl ?_
      refine j_iald sh_101 dX11_toneAt_53 (fun v7 => ?_)
      refine j_goto (tgt := 91) dX11_toneAt_54 rfl ?_
      exact j_iret hq dX11_toneAt_91
  refine j_if_ge (tgt := 8) dX11_toneAt_1 rfl ?_ ?_
  · refine j_iload_n dX11_toneAt_8 rfl rfl ?_
    refine j_bipush (v := 64) dX11_toneAt_9 (by decide +kernel) (inr_d rfl) ?_
    refine j_icmp_le (tgt := 19) dX11_toneAt_11 rfl ?_ ?_
    · refine j_iload_n dX11_toneAt_19 rfl rfl ?_
      exact j_msk [true, true, true, false, false, false] (hk20 _ _)
    · refine j_bipush (v := 64) dX11_toneAt_14 (by decide +kernel) (inr_d rfl) ?_
      refine j_goto (tgt := 20) dX11_toneAt_16 rfl ?_
      exact j_msk [true, true, true, false, false, false] (hk20 _ _)
  · refine j_iconst dX11_toneAt_4 (inr_d rfl) ?_
    refine j_goto (tgt := 20) dX11_toneAt_5 rfl ?_
    exact j_msk [true, true, true, false, false, false] (hk20 _ _)
abbrev rmX11_printed : Room := { frames := 2, cells := 0, slots := 0, locals := 46 }
theorem dX11_printed_0 : decode cX11_printed 0 = .ok (.aload_n 0, 1) := by decide +kernel
theorem dX11_printed_1 : decode cX11_printed 1 = .ok (.iload_n 1, 1) := by decide +kernel
theorem dX11_printed_2 : decode cX11_printed 2 = .ok (.iload_n 2, 1) := by decide +kernel
theorem dX11_printed_3 : decode cX11_printed 3 = .ok (.aload_n 0, 1) := by decide +kernel
theorem dX11_printed_4 : decode cX11_printed 4 = .ok (.iload_n 2, 1) := by decide +kernel
theorem dX11_printed_5 : decode cX11_printed 5 = .ok (.iload_n 3, 1) := by decide +kernel
theorem dX11_printed_6 : decode cX11_printed 6 = .ok (.iload 4, 2) := by decide +kernel
theorem dX11_printed_8 : decode cX11_printed 8 = .ok (.iload 5, 2) := by decide +kernel
theorem dX11_printed_10 : decode cX11_printed 10 = .ok (.invokevirtual 140, 3) := by decide +kernel
theorem dX11_printed_13 : decode cX11_printed 13 = .ok (.invokevirtual 144, 3) := by decide +kernel
theorem dX11_printed_16 : decode cX11_printed 16 = .ok (.ireturn, 1) := by decide +kernel
def fX11_printed (a1 : Int) (a2 : Int) (a3 : Int) (a4 : Int) (a5 : Int) (s0 : Mem) : Option Res :=
 bnd (fX11_exposed a2 a3 a4 a5 s0) (fun r1 s2 =>
 bnd (fX11_toneAt a1 a2 r1 s2) (fun r3 s4 =>
 some (r3, s4)))
set_option maxRecDepth 100000 in
set_option maxHeartbeats 4000000 in
theorem mX11_printed (l : Launch) (D : va_G) (ad : Nat → Nat) (cA : Nat → ClassId) (a1 : Int) (a2 : Int) (a3 : Int) (a4 : Int) (a5 : Int) (s0 : Mem) : MCi l D ad cA yX11_printed cX11_printed 6 (some .int) rmX11_printed [.inr (.inr 100), .inl a1, .inl a2, .inl a3, .inl a4, .inl a5] s0 (fX11_printed a1 a2 a3 a4 a5 s0) := by
  refine MCi_ofE (own := RX11) (ls := [some (.inr (.inr 100)), some (.inl a1), some (.inl a2), some (.inl a3), some (.inl a4), some (.inl a5)]) 0 (by decide +kernel) rfl rfl (fun _ => Nat.le_of_ble_eq_true rfl) (fun K hq => ?_)
  unfold fX11_printed
  refine j_aload_n dX11_printed_0 rfl rfl ?_
  refine j_iload_n dX11_printed_1 rfl rfl ?_
  refine j_iload_n dX11_printed_2 rfl rfl ?_
  refine j_aload_n dX11_printed_3 rfl rfl ?_
  refine j_iload_n dX11_printed_4 rfl rfl ?_
  refine j_iload_n dX11_printed_5 rfl rfl ?_
  refine j_iload dX11_printed_6 rfl ?_
  refine j_iload dX11_printed_8 rfl ?_
  refine j_callVi (mX11_exposed (kl K) (kD K) (kad K) (kcA K) a2 a3 a4 a5 s0) cw_RX11_140 sh_100 rfl ⟨rfl, rfl, by decide, by decide⟩ rfl rfl (Nat.le_of_ble_eq_true rfl) dX11_printed_10 (fun r1 s2 => ?_)
  refine j_callVi (mX11_toneAt (kl K) (kD K) (kad K) (kcA K) a1 a2 r1 s2) cw_RX11_144 sh_100 rfl ⟨rfl, rfl, by decide, by decide⟩ rfl rfl (Nat.le_of_ble_eq_true rfl) dX11_printed_13 (fun r3 s4 => ?_)
  exact j_iret hq dX11_printed_16
abbrev rmX11_isPrint : Room := { frames := 1, cells := 0, slots := 0, locals := 22 }
theorem dX11_isPrint_0 : decode cX11_isPrint 0 = .ok (.iload_n 0, 1) := by decide +kernel
theorem dX11_isPrint_1 : decode cX11_isPrint 1 = .ok (.iconst 0, 1) := by decide +kernel
theorem dX11_isPrint_2 : decode cX11_isPrint 2 = .ok (.iconst 2, 1) := by decide +kernel
theorem dX11_isPrint_3 : decode cX11_isPrint 3 = .ok (.invokestatic 125, 3) := by decide +kernel
theorem dX11_isPrint_6 : decode cX11_isPrint 6 = .ok (.ifCond .eq 36, 3) := by decide +kernel
theorem dX11_isPrint_9 : decode cX11_isPrint 9 = .ok (.iload_n 1, 1) := by decide +kernel
theorem dX11_isPrint_10 : decode cX11_isPrint 10 = .ok (.iconst 1, 1) := by decide +kernel
theorem dX11_isPrint_11 : decode cX11_isPrint 11 = .ok (.bipush 50, 2) := by decide +kernel
theorem dX11_isPrint_13 : decode cX11_isPrint 13 = .ok (.invokestatic 125, 3) := by decide +kernel
theorem dX11_isPrint_16 : decode cX11_isPrint 16 = .ok (.ifCond .eq 26, 3) := by decide +kernel
theorem dX11_isPrint_19 : decode cX11_isPrint 19 = .ok (.iload_n 2, 1) := by decide +kernel
theorem dX11_isPrint_20 : decode cX11_isPrint 20 = .ok (.iconst 0, 1) := by decide +kernel
theorem dX11_isPrint_21 : decode cX11_isPrint 21 = .ok (.bipush 60, 2) := by decide +kernel
theorem dX11_isPrint_23 : decode cX11_isPrint 23 = .ok (.invokestatic 125, 3) := by decide +kernel
theorem dX11_isPrint_26 : decode cX11_isPrint 26 = .ok (.ifCond .eq 16, 3) := by decide +kernel
theorem dX11_isPrint_29 : decode cX11_isPrint 29 = .ok (.iload_n 3, 1) := by decide +kernel
theorem dX11_isPrint_30 : decode cX11_isPrint 30 = .ok (.iconst 0, 1) := by decide +kernel
theorem dX11_isPrint_31 : decode cX11_isPrint 31 = .ok (.iconst 1, 1) := by decide +kernel
theorem dX11_isPrint_32 : decode cX11_isPrint 32 = .ok (.invokestatic 125, 3) := by decide +kernel
theorem dX11_isPrint_35 : decode cX11_isPrint 35 = .ok (.ifCond .eq 7, 3) := by decide +kernel
theorem dX11_isPrint_38 : decode cX11_isPrint 38 = .ok (.iconst 1, 1) := by decide +kernel
theorem dX11_isPrint_39 : decode cX11_isPrint 39 = .ok (.goto 4, 3) := by decide +kernel
theorem dX11_isPrint_42 : decode cX11_isPrint 42 = .ok (.iconst 0, 1) := by decide +kernel
theorem dX11_isPrint_43 : decode cX11_isPrint 43 = .ok (.ireturn, 1) := by decide +kernel
def fX11_isPrint (a0 : Int) (a1 : Int) (a2 : Int) (a3 : Int) (s0 : Mem) : Option Res :=
 bnd (fX11_in a0 0 2 s0) (fun r1 s2 =>
 (if r1 = 0 then
 zr 0 s2
 else
 bnd (fX11_in a1 1 50 s2) (fun r3 s4 =>
 (if r3 = 0 then
 zr 0 s4
 else
 bnd (fX11_in a2 0 60 s4) (fun r5 s6 =>
 (if r5 = 0 then
 zr 0 s6
 else
 bnd (fX11_in a3 0 1 s6) (fun r7 s8 =>
 (if r7 = 0 then
 zr 0 s8
 else
 zr 1 s8))))))))
set_option maxRecDepth 100000 in
set_option maxHeartbeats 4000000 in
theorem mX11_isPrint (l : Launch) (D : va_G) (ad : Nat → Nat) (cA : Nat → ClassId) (a0 : Int) (a1 : Int) (a2 : Int) (a3 : Int) (s0 : Mem) : MCi l D ad cA yX11_isPrint cX11_isPrint 4 (some .boolean) rmX11_isPrint [.inl a0, .inl a1, .inl a2, .inl a3] s0 (fX11_isPrint a0 a1 a2 a3 s0) := by
  refine MCi_ofE (own := RX11) (ls := [some (.inl a0), some (.inl a1), some (.inl a2), some (.inl a3)]) 0 (by decide +kernel) rfl rfl (fun _ => Nat.le_of_ble_eq_true rfl) (fun K hq => ?_)
  unfold fX11_isPrint
  refine j_iload_n dX11_isPrint_0 rfl rfl ?_
  refine j_iconst dX11_isPrint_1 (inr_d rfl) ?_
  refine j_iconst dX11_isPrint_2 (inr_d rfl) ?_
  refine j_callSi (mX11_in (kl K) (kD K) (kad K) (kcA K) a0 0 2 s0) cw_RX11_125 ⟨rfl, rfl, by decide, by decide⟩ rfl rfl (Nat.le_of_ble_eq_true rfl) dX11_isPrint_3 (fun r1 s2 => ?_)
  refine j_if_eq (tgt := 42) dX11_isPrint_6 rfl ?_ ?_
  · refine j_iconst dX11_isPrint_42 (inr_d rfl) ?_
    exact j_zret hq dX11_isPrint_43
  · refine j_iload_n dX11_isPrint_9 rfl rfl ?_
    refine j_iconst dX11_isPrint_10 (inr_d rfl) ?_
    refine j_bipush (v := 50) dX11_isPrint_11 (by decide +kernel) (inr_d rfl) ?_
    refine j_callSi (mX11_in (kl K) (kD K) (kad K) (kcA K) a1 1 50 s2) cw_RX11_125 ⟨rfl, rfl, by decide, by decide⟩ rfl rfl (Nat.le_of_ble_eq_true rfl) dX11_isPrint_13 (fun r3 s4 => ?_)
    refine j_if_eq (tgt := 42) dX11_isPrint_16 rfl ?_ ?_
    · refine j_iconst dX11_isPrint_42 (inr_d rfl) ?_
      exact j_zret hq dX11_isPrint_43
    · refine j_iload_n dX11_isPrint_19 rfl rfl ?_
      refine j_iconst dX11_isPrint_20 (inr_d rfl) ?_
      refine j_bipush (v := 60) dX11_isPrint_21 (by decide +kernel) (inr_d rfl) ?_
      refine j_callSi (mX11_in (kl K) (kD K) (kad K) (kcA K) a2 0 60 s4) cw_RX11_125 ⟨rfl, rfl, by decide, by decide⟩ rfl rfl (Nat.le_of_ble_eq_true rfl) dX11_isPrint_23 (fun r5 s6 => ?_)
      refine j_if_eq (tgt := 42) dX11_isPrint_26 rfl ?_ ?_
      · refine j_iconst dX11_isPrint_42 (inr_d rfl) ?_
        exact j_zret hq dX11_isPrint_43
      · refine j_iload_n dX11_isPrint_29 rfl rfl ?_
        refine j_iconst dX11_isPrint_30 (inr_d rfl) ?_
        refine j_iconst dX11_isPrint_31 (inr_d rfl) ?_
        refine j_callSi (mX11_in (kl K) (kD K) (kad K) (kcA K) a3 0 1 s6) cw_RX11_125 ⟨rfl, rfl, by decide, by decide⟩ rfl rfl (Nat.le_of_ble_eq_true rfl) dX11_isPrint_32 (fun r7 s8 => ?_)
        refine j_if_eq (tgt := 42) dX11_isPrint_35 rfl ?_ ?_
        · refine j_iconst dX11_isPrint_42 (inr_d rfl) ?_
          exact j_zret hq dX11_isPrint_43
        · refine j_iconst dX11_isPrint_38 (inr_d rfl) ?_
          refine j_goto (tgt := 43) dX11_isPrint_39 rfl ?_
          exact j_zret hq dX11_isPrint_43
abbrev rmX11_exposure : Room := { frames := 2, cells := 0, slots := 0, locals := 46 }
theorem dX11_exposure_0 : decode cX11_exposure 0 = .ok (.iload_n 1, 1) := by decide +kernel
theorem dX11_exposure_1 : decode cX11_exposure 1 = .ok (.iload_n 2, 1) := by decide +kernel
theorem dX11_exposure_2 : decode cX11_exposure 2 = .ok (.iload_n 3, 1) := by decide +kernel
theorem dX11_exposure_3 : decode cX11_exposure 3 = .ok (.iload 4, 2) := by decide +kernel
theorem dX11_exposure_5 : decode cX11_exposure 5 = .ok (.invokestatic 148, 3) := by decide +kernel
theorem dX11_exposure_8 : decode cX11_exposure 8 = .ok (.ifCond .eq 15, 3) := by decide +kernel
theorem dX11_exposure_11 : decode cX11_exposure 11 = .ok (.aload_n 0, 1) := by decide +kernel
theorem dX11_exposure_12 : decode cX11_exposure 12 = .ok (.iload_n 1, 1) := by decide +kernel
theorem dX11_exposure_13 : decode cX11_exposure 13 = .ok (.iload_n 2, 1) := by decide +kernel
theorem dX11_exposure_14 : decode cX11_exposure 14 = .ok (.iload_n 3, 1) := by decide +kernel
theorem dX11_exposure_15 : decode cX11_exposure 15 = .ok (.iload 4, 2) := by decide +kernel
theorem dX11_exposure_17 : decode cX11_exposure 17 = .ok (.invokevirtual 140, 3) := by decide +kernel
theorem dX11_exposure_20 : decode cX11_exposure 20 = .ok (.goto 6, 3) := by decide +kernel
theorem dX11_exposure_23 : decode cX11_exposure 23 = .ok (.sipush (-1000), 3) := by decide +kernel
theorem dX11_exposure_26 : decode cX11_exposure 26 = .ok (.ireturn, 1) := by decide +kernel
def fX11_exposure (a1 : Int) (a2 : Int) (a3 : Int) (a4 : Int) (s0 : Mem) : Option Res :=
 bnd (fX11_isPrint a1 a2 a3 a4 s0) (fun r1 s2 =>
 (if r1 = 0 then
 some ((-1000), s2)
 else
 bnd (fX11_exposed a1 a2 a3 a4 s2) (fun r3 s4 =>
 some (r3, s4))))
set_option maxRecDepth 100000 in
set_option maxHeartbeats 4000000 in
theorem mX11_exposure (l : Launch) (D : va_G) (ad : Nat → Nat) (cA : Nat → ClassId) (a1 : Int) (a2 : Int) (a3 : Int) (a4 : Int) (s0 : Mem) : MCi l D ad cA yX11_exposure cX11_exposure 5 (some .int) rmX11_exposure [.inr (.inr 100), .inl a1, .inl a2, .inl a3, .inl a4] s0 (fX11_exposure a1 a2 a3 a4 s0) := by
  refine MCi_ofE (own := RX11) (ls := [some (.inr (.inr 100)), some (.inl a1), some (.inl a2), some (.inl a3), some (.inl a4)]) 0 (by decide +kernel) rfl rfl (fun _ => Nat.le_of_ble_eq_true rfl) (fun K hq => ?_)
  unfold fX11_exposure
  refine j_iload_n dX11_exposure_0 rfl rfl ?_
  refine j_iload_n dX11_exposure_1 rfl rfl ?_
  refine j_iload_n dX11_exposure_2 rfl rfl ?_
  refine j_iload dX11_exposure_3 rfl ?_
  refine j_callSi (mX11_isPrint (kl K) (kD K) (kad K) (kcA K) a1 a2 a3 a4 s0) cw_RX11_148 ⟨rfl, rfl, by decide, by decide⟩ rfl rfl (Nat.le_of_ble_eq_true rfl) dX11_exposure_5 (fun r1 s2 => ?_)
  refine j_if_eq (tgt := 23) dX11_exposure_8 rfl ?_ ?_
  · refine j_sipush (v := (-1000)) dX11_exposure_23 (by decide +kernel) (inr_d rfl) ?_
    exact j_iret hq dX11_exposure_26
  · refine j_aload_n dX11_exposure_11 rfl rfl ?_
    refine j_iload_n dX11_exposure_12 rfl rfl ?_
    refine j_iload_n dX11_exposure_13 rfl rfl ?_
    refine j_iload_n dX11_exposure_14 rfl rfl ?_
    refine j_iload dX11_exposure_15 rfl ?_
    refine j_callVi (mX11_exposed (kl K) (kD K) (kad K) (kcA K) a1 a2 a3 a4 s2) cw_RX11_140 sh_100 rfl ⟨rfl, rfl, by decide, by decide⟩ rfl rfl (Nat.le_of_ble_eq_true rfl) dX11_exposure_17 (fun r3 s4 => ?_)
    refine j_goto (tgt := 26) dX11_exposure_20 rfl ?_
    exact j_iret hq dX11_exposure_26
abbrev rmX11_tone : Room := { frames := 3, cells := 0, slots := 0, locals := 71 }
theorem dX11_tone_0 : decode cX11_tone 0 = .ok (.iload_n 1, 1) := by decide +kernel
theorem dX11_tone_1 : decode cX11_tone 1 = .ok (.iconst 0, 1) := by decide +kernel
theorem dX11_tone_2 : decode cX11_tone 2 = .ok (.iconst 2, 1) := by decide +kernel
theorem dX11_tone_3 : decode cX11_tone 3 = .ok (.invokestatic 125, 3) := by decide +kernel
theorem dX11_tone_6 : decode cX11_tone 6 = .ok (.ifCond .eq 25, 3) := by decide +kernel
theorem dX11_tone_9 : decode cX11_tone 9 = .ok (.iload_n 2, 1) := by decide +kernel
theorem dX11_tone_10 : decode cX11_tone 10 = .ok (.iload_n 3, 1) := by decide +kernel
theorem dX11_tone_11 : decode cX11_tone 11 = .ok (.iload 4, 2) := by decide +kernel
theorem dX11_tone_13 : decode cX11_tone 13 = .ok (.iload 5, 2) := by decide +kernel
theorem dX11_tone_15 : decode cX11_tone 15 = .ok (.invokestatic 148, 3) := by decide +kernel
theorem dX11_tone_18 : decode cX11_tone 18 = .ok (.ifCond .eq 13, 3) := by decide +kernel
theorem dX11_tone_21 : decode cX11_tone 21 = .ok (.iload 6, 2) := by decide +kernel
theorem dX11_tone_23 : decode cX11_tone 23 = .ok (.iconst 1, 1) := by decide +kernel
theorem dX11_tone_24 : decode cX11_tone 24 = .ok (.iconst 5, 1) := by decide +kernel
theorem dX11_tone_25 : decode cX11_tone 25 = .ok (.invokestatic 125, 3) := by decide +kernel
theorem dX11_tone_28 : decode cX11_tone 28 = .ok (.ifCond .ne 5, 3) := by decide +kernel
theorem dX11_tone_31 : decode cX11_tone 31 = .ok (.iconst (-1), 1) := by decide +kernel
theorem dX11_tone_32 : decode cX11_tone 32 = .ok (.ireturn, 1) := by decide +kernel
theorem dX11_tone_33 : decode cX11_tone 33 = .ok (.aload_n 0, 1) := by decide +kernel
theorem dX11_tone_34 : decode cX11_tone 34 = .ok (.iload_n 1, 1) := by decide +kernel
theorem dX11_tone_35 : decode cX11_tone 35 = .ok (.iload_n 2, 1) := by decide +kernel
theorem dX11_tone_36 : decode cX11_tone 36 = .ok (.iload_n 3, 1) := by decide +kernel
theorem dX11_tone_37 : decode cX11_tone 37 = .ok (.iload 4, 2) := by decide +kernel
theorem dX11_tone_39 : decode cX11_tone 39 = .ok (.iload 5, 2) := by decide +kernel
theorem dX11_tone_41 : decode cX11_tone 41 = .ok (.invokevirtual 152, 3) := by decide +kernel
theorem dX11_tone_44 : decode cX11_tone 44 = .ok (.istore 7, 2) := by decide +kernel
theorem dX11_tone_46 : decode cX11_tone 46 = .ok (.iconst 1, 1) := by decide +kernel
theorem dX11_tone_47 : decode cX11_tone 47 = .ok (.istore 8, 2) := by decide +kernel
theorem dX11_tone_49 : decode cX11_tone 49 = .ok (.iload 8, 2) := by decide +kernel
theorem dX11_tone_51 : decode cX11_tone 51 = .ok (.iload 6, 2) := by decide +kernel
theorem dX11_tone_53 : decode cX11_tone 53 = .ok (.if_icmp .ge 27, 3) := by decide +kernel
theorem dX11_tone_56 : decode cX11_tone 56 = .ok (.aload_n 0, 1) := by decide +kernel
theorem dX11_tone_57 : decode cX11_tone 57 = .ok (.iload_n 1, 1) := by decide +kernel
theorem dX11_tone_58 : decode cX11_tone 58 = .ok (.iload_n 2, 1) := by decide +kernel
theorem dX11_tone_59 : decode cX11_tone 59 = .ok (.iload_n 3, 1) := by decide +kernel
theorem dX11_tone_60 : decode cX11_tone 60 = .ok (.bipush 60, 2) := by decide +kernel
theorem dX11_tone_62 : decode cX11_tone 62 = .ok (.iload 7, 2) := by decide +kernel
theorem dX11_tone_64 : decode cX11_tone 64 = .ok (.iconst 5, 1) := by decide +kernel
theorem dX11_tone_65 : decode cX11_tone 65 = .ok (.idiv, 1) := by decide +kernel
theorem dX11_tone_66 : decode cX11_tone 66 = .ok (.isub, 1) := by decide +kernel
theorem dX11_tone_67 : decode cX11_tone 67 = .ok (.iload 5, 2) := by decide +kernel
theorem dX11_tone_69 : decode cX11_tone 69 = .ok (.invokevirtual 152, 3) := by decide +kernel
theorem dX11_tone_72 : decode cX11_tone 72 = .ok (.istore 7, 2) := by decide +kernel
theorem dX11_tone_74 : decode cX11_tone 74 = .ok (.iinc 8 1, 3) := by decide +kernel
theorem dX11_tone_77 : decode cX11_tone 77 = .ok (.goto (-28), 3) := by decide +kernel
theorem dX11_tone_80 : decode cX11_tone 80 = .ok (.iload 7, 2) := by decide +kernel
theorem dX11_tone_82 : decode cX11_tone 82 = .ok (.ireturn, 1) := by decide +kernel
def LX11_tone_49 (c1 : Int) (c2 : Int) (c3 : Int) (c5 : Int) (c6 : Int) (k80 : Int → Mem → Option Res) : Nat → Int → Int → Mem → Option Res
  | 0 => fun _ _ _ => none
  | n + 1 => fun x7 x8 s => (if c6 ≤ x8 then
 k80 x7 s
 else
 bnd (fX11_printed c1 c2 c3 (wr (60 - (Int.tdiv x7 5))) c5 s) (fun r9 s10 =>
 LX11_tone_49 c1 c2 c3 c5 c6 k80 n r9 (wr (x8 + 1)) s10))
def fX11_tone (a1 : Int) (a2 : Int) (a3 : Int) (a4 : Int) (a5 : Int) (a6 : Int) (s0 : Mem) : Option Res :=
 bnd (fX11_in a1 0 2 s0) (fun r1 s2 =>
 (if r1 = 0 then
 some ((-1), s2)
 else
 bnd (fX11_isPrint a2 a3 a4 a5 s2) (fun r3 s4 =>
 (if r3 = 0 then
 some ((-1), s4)
 else
 bnd (fX11_in a6 1 5 s4) (fun r5 s6 =>
 (if r5 ≠ 0 then
 bnd (fX11_printed a1 a2 a3 a4 a5 s6) (fun r7 s8 =>
 LX11_tone_49 a1 a2 a3 a5 a6 (fun y12 s11 =>
 some (y12, s11)) FU r7 1 s8)
 else
 some ((-1), s6)))))))
set_option maxRecDepth 100000 in
set_option maxHeartbeats 4000000 in
theorem jLX11_tone_49 {K : KT} (hq : KI K (some .int)) (c1 : Int) (c2 : Int) (c3 : Int) (c5 : Int) (c6 : Int) (k80 : Int → Mem → Option Res) (hk80 : ∀ (y7 : Int) (s : Mem), J K rmX11_tone cX11_tone RX11 9 80 [none, none, none, none, none, none, none, some (.inl y7), none] [] s (k80 y7 s)) : ∀ (n : Nat) (x7 : Int) (x8 : Int) (s : Mem), J K rmX11_tone cX11_tone RX11 9 49 [some (.inr (.inr 100)), some (.inl c1), some (.inl c2), some (.inl c3), none, some (.inl c5), some (.inl c6), some (.inl x7), some (.inl x8)] [] s (LX11_tone_49 c1 c2 c3 c5 c6 k80 n x7 x8 s) := by
  intro n
  induction n with
  | zero => intros; exact J_none
  | succ n ih =>
    intro x7 x8 s
    show J K _ _ _ _ _ _ _ _ (LX11_tone_49 c1 c2 c3 c5 c6 k80 (n + 1) x7 x8 s)
    simp only [LX11_tone_49]
    refine j_iload dX11_tone_49 rfl ?_
    refine j_iload dX11_tone_51 rfl ?_
    refine j_icmp_ge (tgt := 80) dX11_tone_53 rfl ?_ ?_
    · exact j_msk [false, false, false, false, false, false, false, true, false] (hk80 _ _)
    · refine j_aload_n dX11_tone_56 rfl rfl ?_
      refine j_iload_n dX11_tone_57 rfl rfl ?_
      refine j_iload_n dX11_tone_58 rfl rfl ?_
      refine j_iload_n dX11_tone_59 rfl rfl ?_
      refine j_bipush (v := 60) dX11_tone_60 (by decide +kernel) (inr_d rfl) ?_
      refine j_iload dX11_tone_62 rfl ?_
      refine j_iconst dX11_tone_64 (inr_d rfl) ?_
      refine j_idiv_p dX11_tone_65 (by decide) ?_
      refine j_isub dX11_tone_66 ?_
      refine j_iload dX11_tone_67 rfl ?_
      refine j_callVi (mX11_printed (kl K) (kD K) (kad K) (kcA K) c1 c2 c3 (wr (60 - (Int.tdiv x7 5))) c5 s) cw_RX11_152 sh_100 rfl ⟨rfl, rfl, by decide, by decide⟩ rfl rfl (Nat.le_of_ble_eq_true rfl) dX11_tone_69 (fun r9 s10 => ?_)
      refine j_istoreE (ls2 := [some (.inr (.inr 100)), some (.inl c1), some (.inl c2), some (.inl c3), none, some (.inl c5), some (.inl c6), some (.inl r9), some (.inl x8)]) dX11_tone_72 (by decide) rfl rfl ?_
      refine j_iincE (ls2 := [some (.inr (.inr 100)), some (.inl c1), some (.inl c2), some (.inl c3), none, some (.inl c5), some (.inl c6), some (.inl r9), some (.inl (wr (x8 + 1)))]) dX11_tone_74 rfl (by decide) rfl rfl ?_
      refine j_goto (tgt := 49) dX11_tone_77 rfl ?_
      exact j_msk [true, true, true, true, false, true, true, true, true] (ih _ _ _)
set_option maxRecDepth 100000 in
set_option maxHeartbeats 4000000 in
theorem mX11_tone (l : Launch) (D : va_G) (ad : Nat → Nat) (cA : Nat → ClassId) (a1 : Int) (a2 : Int) (a3 : Int) (a4 : Int) (a5 : Int) (a6 : Int) (s0 : Mem) : MCi l D ad cA yX11_tone cX11_tone 9 (some .int) rmX11_tone [.inr (.inr 100), .inl a1, .inl a2, .inl a3, .inl a4, .inl a5, .inl a6] s0 (fX11_tone a1 a2 a3 a4 a5 a6 s0) := by
  refine MCi_ofE (own := RX11) (ls := [some (.inr (.inr 100)), some (.inl a1), some (.inl a2), some (.inl a3), some (.inl a4), some (.inl a5), some (.inl a6), none, none]) 2 (by decide +kernel) rfl rfl (fun _ => Nat.le_of_ble_eq_true rfl) (fun K hq => ?_)
  unfold fX11_tone
  refine j_iload_n dX11_tone_0 rfl rfl ?_
  refine j_iconst dX11_tone_1 (inr_d rfl) ?_
  refine j_iconst dX11_tone_2 (inr_d rfl) ?_
  refine j_callSi (mX11_in (kl K) (kD K) (kad K) (kcA K) a1 0 2 s0) cw_RX11_125 ⟨rfl, rfl, by decide, by decide⟩ rfl rfl (Nat.le_of_ble_eq_true rfl) dX11_tone_3 (fun r1 s2 => ?_)
  refine j_if_eq (tgt := 31) dX11_tone_6 rfl ?_ ?_
  · refine j_iconst dX11_tone_31 (inr_d rfl) ?_
    exact j_iret hq dX11_tone_32
  · refine j_iload_n dX11_tone_9 rfl rfl ?_
    refine j_iload_n dX11_tone_10 rfl rfl ?_
    refine j_iload dX11_tone_11 rfl ?_
    refine j_iload dX11_tone_13 rfl ?_
    refine j_callSi (mX11_isPrint (kl K) (kD K) (kad K) (kcA K) a2 a3 a4 a5 s2) cw_RX11_148 ⟨rfl, rfl, by decide, by decide⟩ rfl rfl (Nat.le_of_ble_eq_true rfl) dX11_tone_15 (fun r3 s4 => ?_)
    refine j_if_eq (tgt := 31) dX11_tone_18 rfl ?_ ?_
    · refine j_iconst dX11_tone_31 (inr_d rfl) ?_
      exact j_iret hq dX11_tone_32
    · refine j_iload dX11_tone_21 rfl ?_
      refine j_iconst dX11_tone_23 (inr_d rfl) ?_
      refine j_iconst dX11_tone_24 (inr_d rfl) ?_
      refine j_callSi (mX11_in (kl K) (kD K) (kad K) (kcA K) a6 1 5 s4) cw_RX11_125 ⟨rfl, rfl, by decide, by decide⟩ rfl rfl (Nat.le_of_ble_eq_true rfl) dX11_tone_25 (fun r5 s6 => ?_)
      refine j_if_ne (tgt := 33) dX11_tone_28 rfl ?_ ?_
      · refine j_aload_n dX11_tone_33 rfl rfl ?_
        refine j_iload_n dX11_tone_34 rfl rfl ?_
        refine j_iload_n dX11_tone_35 rfl rfl ?_
        refine j_iload_n dX11_tone_36 rfl rfl ?_
        refine j_iload dX11_tone_37 rfl ?_
        refine j_iload dX11_tone_39 rfl ?_
        refine j_callVi (mX11_printed (kl K) (kD K) (kad K) (kcA K) a1 a2 a3 a4 a5 s6) cw_RX11_152 sh_100 rfl ⟨rfl, rfl, by decide, by decide⟩ rfl rfl (Nat.le_of_ble_eq_true rfl) dX11_tone_41 (fun r7 s8 => ?_)
        refine j_istoreE (ls2 := [some (.inr (.inr 100)), some (.inl a1), some (.inl a2), some (.inl a3), some (.inl a4), some (.inl a5), some (.inl a6), some (.inl r7), none]) dX11_tone_44 (by decide) rfl rfl ?_
        refine j_iconst dX11_tone_46 (inr_d rfl) ?_
        refine j_istoreE (ls2 := [some (.inr (.inr 100)), some (.inl a1), some (.inl a2), some (.inl a3), some (.inl a4), some (.inl a5), some (.inl a6), some (.inl r7), some (.inl 1)]) dX11_tone_47 (by decide) rfl rfl ?_
        refine j_msk [true, true, true, true, false, true, true, true, true] (jLX11_tone_49 hq _ _ _ _ _ _ (fun y12 s11 => ?_) _ _ _ _)
        refine j_iload dX11_tone_80 rfl ?_
        exact j_iret hq dX11_tone_82
      · refine j_iconst dX11_tone_31 (inr_d rfl) ?_
        exact j_iret hq dX11_tone_32
abbrev rmX11_write : Room := { frames := 1, cells := 0, slots := 0, locals := 22 }
theorem dX11_write_0 : decode cX11_write 0 = .ok (.iload_n 1, 1) := by decide +kernel
theorem dX11_write_1 : decode cX11_write 1 = .ok (.iconst 1, 1) := by decide +kernel
theorem dX11_write_2 : decode cX11_write 2 = .ok (.bipush 8, 2) := by decide +kernel
theorem dX11_write_4 : decode cX11_write 4 = .ok (.invokestatic 125, 3) := by decide +kernel
theorem dX11_write_7 : decode cX11_write 7 = .ok (.ifCond .ne 5, 3) := by decide +kernel
theorem dX11_write_10 : decode cX11_write 10 = .ok (.iconst (-1), 1) := by decide +kernel
theorem dX11_write_11 : decode cX11_write 11 = .ok (.ireturn, 1) := by decide +kernel
theorem dX11_write_12 : decode cX11_write 12 = .ok (.aload_n 0, 1) := by decide +kernel
theorem dX11_write_13 : decode cX11_write 13 = .ok (.getfield 156, 3) := by decide +kernel
theorem dX11_write_16 : decode cX11_write 16 = .ok (.iload_n 1, 1) := by decide +kernel
theorem dX11_write_17 : decode cX11_write 17 = .ok (.iadd, 1) := by decide +kernel
theorem dX11_write_18 : decode cX11_write 18 = .ok (.sipush 400, 3) := by decide +kernel
theorem dX11_write_21 : decode cX11_write 21 = .ok (.if_icmp .le 6, 3) := by decide +kernel
theorem dX11_write_24 : decode cX11_write 24 = .ok (.bipush (-3), 2) := by decide +kernel
theorem dX11_write_26 : decode cX11_write 26 = .ok (.ireturn, 1) := by decide +kernel
theorem dX11_write_27 : decode cX11_write 27 = .ok (.iload_n 1, 1) := by decide +kernel
theorem dX11_write_28 : decode cX11_write 28 = .ok (.iconst 1, 1) := by decide +kernel
theorem dX11_write_29 : decode cX11_write 29 = .ok (.isub, 1) := by decide +kernel
theorem dX11_write_30 : decode cX11_write 30 = .ok (.istore 4, 2) := by decide +kernel
theorem dX11_write_32 : decode cX11_write 32 = .ok (.iload 4, 2) := by decide +kernel
theorem dX11_write_34 : decode cX11_write 34 = .ok (.ifCond .lt 40, 3) := by decide +kernel
theorem dX11_write_37 : decode cX11_write 37 = .ok (.aload_n 0, 1) := by decide +kernel
theorem dX11_write_38 : decode cX11_write 38 = .ok (.getfield 65, 3) := by decide +kernel
theorem dX11_write_41 : decode cX11_write 41 = .ok (.aload_n 0, 1) := by decide +kernel
theorem dX11_write_42 : decode cX11_write 42 = .ok (.getfield 156, 3) := by decide +kernel
theorem dX11_write_45 : decode cX11_write 45 = .ok (.lload_n 2, 1) := by decide +kernel
theorem dX11_write_46 : decode cX11_write 46 = .ok (.bipush 8, 2) := by decide +kernel
theorem dX11_write_48 : decode cX11_write 48 = .ok (.iload 4, 2) := by decide +kernel
theorem dX11_write_50 : decode cX11_write 50 = .ok (.imul, 1) := by decide +kernel
theorem dX11_write_51 : decode cX11_write 51 = .ok (.lshr, 1) := by decide +kernel
theorem dX11_write_52 : decode cX11_write 52 = .ok (.ldc2_w 159, 3) := by decide +kernel
theorem dX11_write_55 : decode cX11_write 55 = .ok (.land, 1) := by decide +kernel
theorem dX11_write_56 : decode cX11_write 56 = .ok (.l2i, 1) := by decide +kernel
theorem dX11_write_57 : decode cX11_write 57 = .ok (.iastore, 1) := by decide +kernel
theorem dX11_write_58 : decode cX11_write 58 = .ok (.aload_n 0, 1) := by decide +kernel
theorem dX11_write_59 : decode cX11_write 59 = .ok (.dup, 1) := by decide +kernel
theorem dX11_write_60 : decode cX11_write 60 = .ok (.getfield 156, 3) := by decide +kernel
theorem dX11_write_63 : decode cX11_write 63 = .ok (.iconst 1, 1) := by decide +kernel
theorem dX11_write_64 : decode cX11_write 64 = .ok (.iadd, 1) := by decide +kernel
theorem dX11_write_65 : decode cX11_write 65 = .ok (.putfield 156, 3) := by decide +kernel
theorem dX11_write_68 : decode cX11_write 68 = .ok (.iinc 4 (-1), 3) := by decide +kernel
theorem dX11_write_71 : decode cX11_write 71 = .ok (.goto (-39), 3) := by decide +kernel
theorem dX11_write_74 : decode cX11_write 74 = .ok (.aload_n 0, 1) := by decide +kernel
theorem dX11_write_75 : decode cX11_write 75 = .ok (.getfield 156, 3) := by decide +kernel
theorem dX11_write_78 : decode cX11_write 78 = .ok (.ireturn, 1) := by decide +kernel
def LX11_write_32 (c2 : Int64) (k74 : Mem → Option Res) : Nat → Int → Mem → Option Res
  | 0 => fun _ _ => none
  | n + 1 => fun x4 s => (if x4 < 0 then
 k74 s
 else
 ST s 116 (s 100 20) 400 (l2i (lan (lsr c2 (wr (8 * x4))) ((255 : Int64)))) (fun s4 =>
 lt (up s4 100 20 (wr ((s4 100 20) + 1))) (fun s5 =>
 LX11_write_32 c2 k74 n (wr (x4 + (-1))) s5)))
def fX11_write (a1 : Int) (a2 : Int64) (s0 : Mem) : Option Res :=
 bnd (fX11_in a1 1 8 s0) (fun r1 s2 =>
 (if r1 ≠ 0 then
 (if wr ((s2 100 20) + a1) ≤ 400 then
 lt (wr (a1 - 1)) (fun v3 =>
 LX11_write_32 a2 (fun s6 =>
 some (s6 100 20, s6)) FU v3 s2)
 else
 some ((-3), s2))
 else
 some ((-1), s2)))
set_option maxRecDepth 100000 in
set_option maxHeartbeats 4000000 in
theorem jLX11_write_32 {K : KT} (hq : KI K (some .int)) (c2 : Int64) (k74 : Mem → Option Res) (hk74 : ∀ (s : Mem), J K rmX11_write cX11_write RX11 5 74 [some (.inr (.inr 100)), none, none, none, none] [] s (k74 s)) : ∀ (n : Nat) (x4 : Int) (s : Mem), J K rmX11_write cX11_write RX11 5 32 [some (.inr (.inr 100)), none, some (.inr (.inl c2)), none, some (.inl x4)] [] s (LX11_write_32 c2 k74 n x4 s) := by
  intro n
  induction n with
  | zero => intros; exact J_none
  | succ n ih =>
    intro x4 s
    show J K _ _ _ _ _ _ _ _ (LX11_write_32 c2 k74 (n + 1) x4 s)
    simp only [LX11_write_32]
    refine j_iload dX11_write_32 rfl ?_
    refine j_if_lt (tgt := 74) dX11_write_34 rfl ?_ ?_
    · exact j_msk [true, false, false, false, false] (hk74 _)
    · refine j_aload_n dX11_write_37 rfl rfl ?_
      refine j_getR fl_RX11_65 sh_100 rfl dX11_write_38 ?_
      refine j_aload_n dX11_write_41 rfl rfl ?_
      refine j_getI fl_RX11_156 sh_100 rfl dX11_write_42 ?_
      refine j_lload_n dX11_write_45 rfl rfl ?_
      refine j_bipush (v := 8) dX11_write_46 (by decide +kernel) (inr_d rfl) ?_
      refine j_iload dX11_write_48 rfl ?_
      refine j_imul dX11_write_50 ?_
      refine j_lshr dX11_write_51 ?_
      refine j_ldc2 dX11_write_52 cst_RX11_159 ?_
      refine j_land dX11_write_55 ?_
      refine j_l2i dX11_write_56 ?_
      refine j_iast sh_116 dX11_write_57 (fun s4 => ?_)
      refine j_aload_n dX11_write_58 rfl rfl ?_
      refine j_dup rfl dX11_write_59 ?_
      refine j_getI fl_RX11_156 sh_100 rfl dX11_write_60 ?_
      refine j_iconst dX11_write_63 (inr_d rfl) ?_
      refine j_iadd dX11_write_64 ?_
      refine j_putI fp_RX11_156 sh_100 rfl dX11_write_65 (fun s5 => ?_)
      refine j_iincE (ls2 := [some (.inr (.inr 100)), none, some (.inr (.inl c2)), none, some (.inl (wr (x4 + (-1))))]) dX11_write_68 rfl (by decide) rfl rfl ?_
      refine j_goto (tgt := 32) dX11_write_71 rfl ?_
      exact j_msk [true, false, true, false, true] (ih _ _)
set_option maxRecDepth 100000 in
set_option maxHeartbeats 4000000 in
theorem mX11_write (l : Launch) (D : va_G) (ad : Nat → Nat) (cA : Nat → ClassId) (a1 : Int) (a2 : Int64) (s0 : Mem) : MCi l D ad cA yX11_write cX11_write 5 (some .int) rmX11_write [.inr (.inr 100), .inl a1, .inr (.inl a2)] s0 (fX11_write a1 a2 s0) := by
  refine MCi_ofE (own := RX11) (ls := [some (.inr (.inr 100)), some (.inl a1), some (.inr (.inl a2)), none, none]) 1 (by decide +kernel) rfl rfl (fun _ => Nat.le_of_ble_eq_true rfl) (fun K hq => ?_)
  unfold fX11_write
  refine j_iload_n dX11_write_0 rfl rfl ?_
  refine j_iconst dX11_write_1 (inr_d rfl) ?_
  refine j_bipush (v := 8) dX11_write_2 (by decide +kernel) (inr_d rfl) ?_
  refine j_callSi (mX11_in (kl K) (kD K) (kad K) (kcA K) a1 1 8 s0) cw_RX11_125 ⟨rfl, rfl, by decide, by decide⟩ rfl rfl (Nat.le_of_ble_eq_true rfl) dX11_write_4 (fun r1 s2 => ?_)
  refine j_if_ne (tgt := 12) dX11_write_7 rfl ?_ ?_
  · refine j_aload_n dX11_write_12 rfl rfl ?_
    refine j_getI fl_RX11_156 sh_100 rfl dX11_write_13 ?_
    refine j_iload_n dX11_write_16 rfl rfl ?_
    refine j_iadd dX11_write_17 ?_
    refine j_sipush (v := 400) dX11_write_18 (by decide +kernel) (inr_d rfl) ?_
    refine j_icmp_le (tgt := 27) dX11_write_21 rfl ?_ ?_
    · refine j_iload_n dX11_write_27 rfl rfl ?_
      refine j_iconst dX11_write_28 (inr_d rfl) ?_
      refine j_isub dX11_write_29 ?_
      refine j_ltv (fun v3 => ?_)
      refine j_istoreE (ls2 := [some (.inr (.inr 100)), some (.inl a1), some (.inr (.inl a2)), none, some (.inl v3)]) dX11_write_30 (by decide) rfl rfl ?_
      refine j_msk [true, false, true, false, true] (jLX11_write_32 hq _ _ (fun s6 => ?_) _ _ _)
      refine j_aload_n dX11_write_74 rfl rfl ?_
      refine j_getI fl_RX11_156 sh_100 rfl dX11_write_75 ?_
      exact j_iret hq dX11_write_78
    · refine j_bipush (v := (-3)) dX11_write_24 (by decide +kernel) (inr_d rfl) ?_
      exact j_iret hq dX11_write_26
  · refine j_iconst dX11_write_10 (inr_d rfl) ?_
    exact j_iret hq dX11_write_11
abbrev rmX11_clear : Room := { frames := 0, cells := 0, slots := 0, locals := 0 }
theorem dX11_clear_0 : decode cX11_clear 0 = .ok (.aload_n 0, 1) := by decide +kernel
theorem dX11_clear_1 : decode cX11_clear 1 = .ok (.getfield 156, 3) := by decide +kernel
theorem dX11_clear_4 : decode cX11_clear 4 = .ok (.istore_n 1, 1) := by decide +kernel
theorem dX11_clear_5 : decode cX11_clear 5 = .ok (.aload_n 0, 1) := by decide +kernel
theorem dX11_clear_6 : decode cX11_clear 6 = .ok (.iconst 0, 1) := by decide +kernel
theorem dX11_clear_7 : decode cX11_clear 7 = .ok (.putfield 156, 3) := by decide +kernel
theorem dX11_clear_10 : decode cX11_clear 10 = .ok (.iload_n 1, 1) := by decide +kernel
theorem dX11_clear_11 : decode cX11_clear 11 = .ok (.ireturn, 1) := by decide +kernel
def fX11_clear (s0 : Mem) : Option Res :=
 lt (s0 100 20) (fun v1 =>
 lt (up s0 100 20 0) (fun s2 =>
 some (v1, s2)))
set_option maxRecDepth 100000 in
set_option maxHeartbeats 4000000 in
theorem mX11_clear (l : Launch) (D : va_G) (ad : Nat → Nat) (cA : Nat → ClassId) (s0 : Mem) : MCi l D ad cA yX11_clear cX11_clear 2 (some .int) rmX11_clear [.inr (.inr 100)] s0 (fX11_clear s0) := by
  refine MCi_ofE (own := RX11) (ls := [some (.inr (.inr 100)), none]) 1 (by decide +kernel) rfl rfl (fun _ => Nat.le_of_ble_eq_true rfl) (fun K hq => ?_)
  unfold fX11_clear
  refine j_aload_n dX11_clear_0 rfl rfl ?_
  refine j_getI fl_RX11_156 sh_100 rfl dX11_clear_1 ?_
  refine j_ltv (fun v1 => ?_)
  refine j_istore_nE (ls2 := [some (.inr (.inr 100)), some (.inl v1)]) dX11_clear_4 rfl (by decide) rfl rfl ?_
  refine j_aload_n dX11_clear_5 rfl rfl ?_
  refine j_iconst dX11_clear_6 (inr_d rfl) ?_
  refine j_putI fp_RX11_156 sh_100 rfl dX11_clear_7 (fun s2 => ?_)
  refine j_iload_n dX11_clear_10 rfl rfl ?_
  exact j_iret hq dX11_clear_11
abbrev rmX11_numbers : Room := { frames := 1, cells := 0, slots := 0, locals := 22 }
theorem dX11_numbers_0 : decode cX11_numbers 0 = .ok (.iconst 0, 1) := by decide +kernel
theorem dX11_numbers_1 : decode cX11_numbers 1 = .ok (.istore_n 2, 1) := by decide +kernel
theorem dX11_numbers_2 : decode cX11_numbers 2 = .ok (.iload_n 2, 1) := by decide +kernel
theorem dX11_numbers_3 : decode cX11_numbers 3 = .ok (.iload_n 1, 1) := by decide +kernel
theorem dX11_numbers_4 : decode cX11_numbers 4 = .ok (.if_icmp .ge 151, 3) := by decide +kernel
theorem dX11_numbers_7 : decode cX11_numbers 7 = .ok (.iconst 0, 1) := by decide +kernel
theorem dX11_numbers_8 : decode cX11_numbers 8 = .ok (.istore_n 3, 1) := by decide +kernel
theorem dX11_numbers_9 : decode cX11_numbers 9 = .ok (.iconst 0, 1) := by decide +kernel
theorem dX11_numbers_10 : decode cX11_numbers 10 = .ok (.istore 4, 2) := by decide +kernel
theorem dX11_numbers_12 : decode cX11_numbers 12 = .ok (.aload_n 0, 1) := by decide +kernel
theorem dX11_numbers_13 : decode cX11_numbers 13 = .ok (.getfield 161, 3) := by decide +kernel
theorem dX11_numbers_16 : decode cX11_numbers 16 = .ok (.aload_n 0, 1) := by decide +kernel
theorem dX11_numbers_17 : decode cX11_numbers 17 = .ok (.getfield 156, 3) := by decide +kernel
theorem dX11_numbers_20 : decode cX11_numbers 20 = .ok (.if_icmp .ge 63, 3) := by decide +kernel
theorem dX11_numbers_23 : decode cX11_numbers 23 = .ok (.aload_n 0, 1) := by decide +kernel
theorem dX11_numbers_24 : decode cX11_numbers 24 = .ok (.getfield 65, 3) := by decide +kernel
theorem dX11_numbers_27 : decode cX11_numbers 27 = .ok (.aload_n 0, 1) := by decide +kernel
theorem dX11_numbers_28 : decode cX11_numbers 28 = .ok (.getfield 161, 3) := by decide +kernel
theorem dX11_numbers_31 : decode cX11_numbers 31 = .ok (.iaload, 1) := by decide +kernel
theorem dX11_numbers_32 : decode cX11_numbers 32 = .ok (.bipush 48, 2) := by decide +kernel
theorem dX11_numbers_34 : decode cX11_numbers 34 = .ok (.bipush 57, 2) := by decide +kernel
theorem dX11_numbers_36 : decode cX11_numbers 36 = .ok (.invokestatic 125, 3) := by decide +kernel
theorem dX11_numbers_39 : decode cX11_numbers 39 = .ok (.ifCond .eq 44, 3) := by decide +kernel
theorem dX11_numbers_42 : decode cX11_numbers 42 = .ok (.iload_n 3, 1) := by decide +kernel
theorem dX11_numbers_43 : decode cX11_numbers 43 = .ok (.iconst 5, 1) := by decide +kernel
theorem dX11_numbers_44 : decode cX11_numbers 44 = .ok (.if_icmp .ge 39, 3) := by decide +kernel
theorem dX11_numbers_47 : decode cX11_numbers 47 = .ok (.bipush 10, 2) := by decide +kernel
theorem dX11_numbers_49 : decode cX11_numbers 49 = .ok (.iload 4, 2) := by decide +kernel
theorem dX11_numbers_51 : decode cX11_numbers 51 = .ok (.imul, 1) := by decide +kernel
theorem dX11_numbers_52 : decode cX11_numbers 52 = .ok (.aload_n 0, 1) := by decide +kernel
theorem dX11_numbers_53 : decode cX11_numbers 53 = .ok (.getfield 65, 3) := by decide +kernel
theorem dX11_numbers_56 : decode cX11_numbers 56 = .ok (.aload_n 0, 1) := by decide +kernel
theorem dX11_numbers_57 : decode cX11_numbers 57 = .ok (.getfield 161, 3) := by decide +kernel
theorem dX11_numbers_60 : decode cX11_numbers 60 = .ok (.iaload, 1) := by decide +kernel
theorem dX11_numbers_61 : decode cX11_numbers 61 = .ok (.iadd, 1) := by decide +kernel
theorem dX11_numbers_62 : decode cX11_numbers 62 = .ok (.bipush 48, 2) := by decide +kernel
theorem dX11_numbers_64 : decode cX11_numbers 64 = .ok (.isub, 1) := by decide +kernel
theorem dX11_numbers_65 : decode cX11_numbers 65 = .ok (.istore 4, 2) := by decide +kernel
theorem dX11_numbers_67 : decode cX11_numbers 67 = .ok (.iinc 3 1, 3) := by decide +kernel
theorem dX11_numbers_70 : decode cX11_numbers 70 = .ok (.aload_n 0, 1) := by decide +kernel
theorem dX11_numbers_71 : decode cX11_numbers 71 = .ok (.dup, 1) := by decide +kernel
theorem dX11_numbers_72 : decode cX11_numbers 72 = .ok (.getfield 161, 3) := by decide +kernel
theorem dX11_numbers_75 : decode cX11_numbers 75 = .ok (.iconst 1, 1) := by decide +kernel
theorem dX11_numbers_76 : decode cX11_numbers 76 = .ok (.iadd, 1) := by decide +kernel
theorem dX11_numbers_77 : decode cX11_numbers 77 = .ok (.putfield 161, 3) := by decide +kernel
theorem dX11_numbers_80 : decode cX11_numbers 80 = .ok (.goto (-68), 3) := by decide +kernel
theorem dX11_numbers_83 : decode cX11_numbers 83 = .ok (.iload_n 3, 1) := by decide +kernel
theorem dX11_numbers_84 : decode cX11_numbers 84 = .ok (.iconst 1, 1) := by decide +kernel
theorem dX11_numbers_85 : decode cX11_numbers 85 = .ok (.iconst 4, 1) := by decide +kernel
theorem dX11_numbers_86 : decode cX11_numbers 86 = .ok (.invokestatic 125, 3) := by decide +kernel
theorem dX11_numbers_89 : decode cX11_numbers 89 = .ok (.ifCond .eq 40, 3) := by decide +kernel
theorem dX11_numbers_92 : decode cX11_numbers 92 = .ok (.aload_n 0, 1) := by decide +kernel
theorem dX11_numbers_93 : decode cX11_numbers 93 = .ok (.getfield 161, 3) := by decide +kernel
theorem dX11_numbers_96 : decode cX11_numbers 96 = .ok (.aload_n 0, 1) := by decide +kernel
theorem dX11_numbers_97 : decode cX11_numbers 97 = .ok (.getfield 156, 3) := by decide +kernel
theorem dX11_numbers_100 : decode cX11_numbers 100 = .ok (.if_icmp .eq 29, 3) := by decide +kernel
theorem dX11_numbers_103 : decode cX11_numbers 103 = .ok (.aload_n 0, 1) := by decide +kernel
theorem dX11_numbers_104 : decode cX11_numbers 104 = .ok (.getfield 65, 3) := by decide +kernel
theorem dX11_numbers_107 : decode cX11_numbers 107 = .ok (.aload_n 0, 1) := by decide +kernel
theorem dX11_numbers_108 : decode cX11_numbers 108 = .ok (.getfield 161, 3) := by decide +kernel
theorem dX11_numbers_111 : decode cX11_numbers 111 = .ok (.iaload, 1) := by decide +kernel
theorem dX11_numbers_112 : decode cX11_numbers 112 = .ok (.iload_n 2, 1) := by decide +kernel
theorem dX11_numbers_113 : decode cX11_numbers 113 = .ok (.iload_n 1, 1) := by decide +kernel
theorem dX11_numbers_114 : decode cX11_numbers 114 = .ok (.iconst 1, 1) := by decide +kernel
theorem dX11_numbers_115 : decode cX11_numbers 115 = .ok (.isub, 1) := by decide +kernel
theorem dX11_numbers_116 : decode cX11_numbers 116 = .ok (.if_icmp .ge 8, 3) := by decide +kernel
theorem dX11_numbers_119 : decode cX11_numbers 119 = .ok (.bipush 44, 2) := by decide +kernel
theorem dX11_numbers_121 : decode cX11_numbers 121 = .ok (.goto 5, 3) := by decide +kernel
theorem dX11_numbers_124 : decode cX11_numbers 124 = .ok (.bipush 59, 2) := by decide +kernel
theorem dX11_numbers_126 : decode cX11_numbers 126 = .ok (.if_icmp .eq 5, 3) := by decide +kernel
theorem dX11_numbers_129 : decode cX11_numbers 129 = .ok (.iconst 0, 1) := by decide +kernel
theorem dX11_numbers_130 : decode cX11_numbers 130 = .ok (.ireturn, 1) := by decide +kernel
theorem dX11_numbers_131 : decode cX11_numbers 131 = .ok (.aload_n 0, 1) := by decide +kernel
theorem dX11_numbers_132 : decode cX11_numbers 132 = .ok (.getfield 95, 3) := by decide +kernel
theorem dX11_numbers_135 : decode cX11_numbers 135 = .ok (.iload_n 2, 1) := by decide +kernel
theorem dX11_numbers_136 : decode cX11_numbers 136 = .ok (.iload 4, 2) := by decide +kernel
theorem dX11_numbers_138 : decode cX11_numbers 138 = .ok (.iastore, 1) := by decide +kernel
theorem dX11_numbers_139 : decode cX11_numbers 139 = .ok (.aload_n 0, 1) := by decide +kernel
theorem dX11_numbers_140 : decode cX11_numbers 140 = .ok (.dup, 1) := by decide +kernel
theorem dX11_numbers_141 : decode cX11_numbers 141 = .ok (.getfield 161, 3) := by decide +kernel
theorem dX11_numbers_144 : decode cX11_numbers 144 = .ok (.iconst 1, 1) := by decide +kernel
theorem dX11_numbers_145 : decode cX11_numbers 145 = .ok (.iadd, 1) := by decide +kernel
theorem dX11_numbers_146 : decode cX11_numbers 146 = .ok (.putfield 161, 3) := by decide +kernel
theorem dX11_numbers_149 : decode cX11_numbers 149 = .ok (.iinc 2 1, 3) := by decide +kernel
theorem dX11_numbers_152 : decode cX11_numbers 152 = .ok (.goto (-150), 3) := by decide +kernel
theorem dX11_numbers_155 : decode cX11_numbers 155 = .ok (.iconst 1, 1) := by decide +kernel
theorem dX11_numbers_156 : decode cX11_numbers 156 = .ok (.ireturn, 1) := by decide +kernel
def LX11_numbers_12 (c1 : Int) (c2 : Int) (k83 : Int → Int → Mem → Option Res) : Nat → Int → Int → Mem → Option Res
  | 0 => fun _ _ _ => none
  | n + 1 => fun x3 x4 s => (if s 100 20 ≤ s 100 33 then
 k83 x3 x4 s
 else
 rd (s 116) (s 100 33) 400 (fun v1 =>
 bnd (fX11_in v1 48 57 s) (fun r2 s3 =>
 (if r2 = 0 then
 k83 x3 x4 s3
 else
 (if 5 ≤ x3 then
 k83 x3 x4 s3
 else
 rd (s3 116) (s3 100 33) 400 (fun v4 =>
 lt (wr ((wr ((wr (10 * x4)) + v4)) - 48)) (fun v5 =>
 lt (up s3 100 33 (wr ((s3 100 33) + 1))) (fun s6 =>
 LX11_numbers_12 c1 c2 k83 n (wr (x3 + 1)) v5 s6))))))))
def LX11_numbers_2 (c1 : Int) (k155 : Mem → Option Res) : Nat → Int → Mem → Option Res
  | 0 => fun _ _ => none
  | n + 1 => fun x2 s => (if c1 ≤ x2 then
 k155 s
 else
 LX11_numbers_12 c1 x2 (fun y8 y9 s7 =>
 bnd (fX11_in y8 1 4 s7) (fun r10 s11 =>
 (if r10 = 0 then
 zr 0 s11
 else
 (if s11 100 33 = s11 100 20 then
 zr 0 s11
 else
 rd (s11 116) (s11 100 33) 400 (fun v12 =>
 jn (fun (u13 : Int) (s14 : Mem) =>
 (if v12 = u13 then
 ST s14 126 x2 5 y9 (fun s15 =>
 lt (up s15 100 33 (wr ((s15 100 33) + 1))) (fun s16 =>
 LX11_numbers_2 c1 k155 n (wr (x2 + 1)) s16))
 else
 zr 0 s14)) (fun k126 =>
 (if wr (c1 - 1) ≤ x2 then
 k126 59 s11
 else
 k126 44 s11))))))) FU 0 0 s)
def fX11_numbers (a1 : Int) (s0 : Mem) : Option Res :=
 LX11_numbers_2 a1 (fun s17 =>
 zr 1 s17) FU 0 s0
set_option maxRecDepth 100000 in
set_option maxHeartbeats 4000000 in
theorem jLX11_numbers_12 {K : KT} (hq : KI K (some .boolean)) (c1 : Int) (c2 : Int) (k83 : Int → Int → Mem → Option Res) (hk83 : ∀ (y3 : Int) (y4 : Int) (s : Mem), J K rmX11_numbers cX11_numbers RX11 5 83 [some (.inr (.inr 100)), some (.inl c1), some (.inl c2), some (.inl y3), some (.inl y4)] [] s (k83 y3 y4 s)) : ∀ (n : Nat) (x3 : Int) (x4 : Int) (s : Mem), J K rmX11_numbers cX11_numbers RX11 5 12 [some (.inr (.inr 100)), some (.inl c1), some (.inl c2), some (.inl x3), some (.inl x4)] [] s (LX11_numbers_12 c1 c2 k83 n x3 x4 s) := by
  intro n
  induction n with
  | zero => intros; exact J_none
  | succ n ih =>
    intro x3 x4 s
    show J K _ _ _ _ _ _ _ _ (LX11_numbers_12 c1 c2 k83 (n + 1) x3 x4 s)
    simp only [LX11_numbers_12]
    refine j_aload_n dX11_numbers_12 rfl rfl ?_
    refine j_getI fl_RX11_161 sh_100 rfl dX11_numbers_13 ?_
    refine j_aload_n dX11_numbers_16 rfl rfl ?_
    refine j_getI fl_RX11_156 sh_100 rfl dX11_numbers_17 ?_
    refine j_icmp_ge (tgt := 83) dX11_numbers_20 rfl ?_ ?_
    · exact j_msk [true, true, true, true, true] (hk83 _ _ _)
    · refine j_aload_n dX11_numbers_23 rfl rfl ?_
      refine j_getR fl_RX11_65 sh_100 rfl dX11_numbers_24 ?_
      refine j_aload_n dX11_numbers_27 rfl rfl ?_
      refine j_getI fl_RX11_161 sh_100 rfl dX11_numbers_28 ?_
      refine j_iald sh_116 dX11_numbers_31 (fun v1 => ?_)
      refine j_bipush (v := 48) dX11_numbers_32 (by decide +kernel) (inr_d rfl) ?_
      refine j_bipush (v := 57) dX11_numbers_34 (by decide +kernel) (inr_d rfl) ?_
      refine j_callSi (mX11_in (kl K) (kD K) (kad K) (kcA K) v1 48 57 s) cw_RX11_125 ⟨rfl, rfl, by decide, by decide⟩ rfl rfl (Nat.le_of_ble_eq_true rfl) dX11_numbers_36 (fun r2 s3 => ?_)
      refine j_if_eq (tgt := 83) dX11_numbers_39 rfl ?_ ?_
      · exact j_msk [true, true, true, true, true] (hk83 _ _ _)
      · refine j_iload_n dX11_numbers_42 rfl rfl ?_
        refine j_iconst dX11_numbers_43 (inr_d rfl) ?_
        refine j_icmp_ge (tgt := 83) dX11_numbers_44 rfl ?_ ?_
        · exact j_msk [true, true, true, true, true] (hk83 _ _ _)
        · refine j_bipush (v := 10) dX11_numbers_47 (by decide +kernel) (inr_d rfl) ?_
          refine j_iload dX11_numbers_49 rfl ?_
          refine j_imul dX11_numbers_51 ?_
          refine j_aload_n dX11_numbers_52 rfl rfl ?_
          refine j_getR fl_RX11_65 sh_100 rfl dX11_numbers_53 ?_
          refine j_aload_n dX11_numbers_56 rfl rfl ?_
          refine j_getI fl_RX11_161 sh_100 rfl dX11_numbers_57 ?_
          refine j_iald sh_116 dX11_numbers_60 (fun v4 => ?_)
          refine j_iadd dX11_numbers_61 ?_
          refine j_bipush (v := 48) dX11_numbers_62 (by decide +kernel) (inr_d rfl) ?_
          refine j_isub dX11_numbers_64 ?_
          refine j_ltv (fun v5 => ?_)
          refine j_istoreE (ls2 := [some (.inr (.inr 100)), some (.inl c1), some (.inl c2), some (.inl x3), some (.inl v5)]) dX11_numbers_65 (by decide) rfl rfl ?_
          refine j_iincE (ls2 := [some (.inr (.inr 100)), some (.inl c1), some (.inl c2), some (.inl (wr (x3 + 1))), some (.inl v5)]) dX11_numbers_67 rfl (by decide) rfl rfl ?_
          refine j_aload_n dX11_numbers_70 rfl rfl ?_
          refine j_dup rfl dX11_numbers_71 ?_
          refine j_getI fl_RX11_161 sh_100 rfl dX11_numbers_72 ?_
          refine j_iconst dX11_numbers_75 (inr_d rfl) ?_
          refine j_iadd dX11_numbers_76 ?_
          refine j_putI fp_RX11_161 sh_100 rfl dX11_numbers_77 (fun s6 => ?_)
          refine j_goto (tgt := 12) dX11_numbers_80 rfl ?_
          exact j_msk [true, true, true, true, true] (ih _ _ _)
set_option maxRecDepth 100000 in
set_option maxHeartbeats 4000000 in
theorem jLX11_numbers_2 {K : KT} (hq : KI K (some .boolean)) (c1 : Int) (k155 : Mem → Option Res) (hk155 : ∀ (s : Mem), J K rmX11_numbers cX11_numbers RX11 5 155 [none, none, none, none, none] [] s (k155 s)) : ∀ (n : Nat) (x2 : Int) (s : Mem), J K rmX11_numbers cX11_numbers RX11 5 2 [some (.inr (.inr 100)), some (.inl c1), some (.inl x2), none, none] [] s (LX11_numbers_2 c1 k155 n x2 s) := by
  intro n
  induction n with
  | zero => intros; exact J_none
  | succ n ih =>
    intro x2 s
    show J K _ _ _ _ _ _ _ _ (LX11_numbers_2 c1 k155 (n + 1) x2 s)
    simp only [LX11_numbers_2]
    refine j_iload_n dX11_numbers_2 rfl rfl ?_
    refine j_iload_n dX11_numbers_3 rfl rfl ?_
    refine j_icmp_ge (tgt := 155) dX11_numbers_4 rfl ?_ ?_
    · exact j_msk [false, false, false, false, false] (hk155 _)
    · refine j_iconst dX11_numbers_7 (inr_d rfl) ?_
      refine j_istore_nE (ls2 := [some (.inr (.inr 100)), some (.inl c1), some (.inl x2), some (.inl 0), none]) dX11_numbers_8 rfl (by decide) rfl rfl ?_
      refine j_iconst dX11_numbers_9 (inr_d rfl) ?_
      refine j_istoreE (ls2 := [some (.inr (.inr 100)), some (.inl c1), some (.inl x2), some (.inl 0), some (.inl 0)]) dX11_numbers_10 (by decide) rfl rfl ?_
      refine j_msk [true, true, true, true, true] (jLX11_numbers_12 hq _ _ _ (fun y8 y9 s7 => ?_) _ _ _ _)
      refine j_iload_n dX11_numbers_83 rfl rfl ?_
      refine j_iconst dX11_numbers_84 (inr_d rfl) ?_
      refine j_iconst dX11_numbers_85 (inr_d rfl) ?_
      refine j_callSi (mX11_in (kl K) (kD K) (kad K) (kcA K) y8 1 4 s7) cw_RX11_125 ⟨rfl, rfl, by decide, by decide⟩ rfl rfl (Nat.le_of_ble_eq_true rfl) dX11_numbers_86 (fun r10 s11 => ?_)
      refine j_if_eq (tgt := 129) dX11_numbers_89 rfl ?_ ?_
      · refine j_iconst dX11_numbers_129 (inr_d rfl) ?_
        exact j_zret hq dX11_numbers_130
      · refine j_aload_n dX11_numbers_92 rfl rfl ?_
        refine j_getI fl_RX11_161 sh_100 rfl dX11_numbers_93 ?_
        refine j_aload_n dX11_numbers_96 rfl rfl ?_
        refine j_getI fl_RX11_156 sh_100 rfl dX11_numbers_97 ?_
        refine j_icmp_eq (tgt := 129) dX11_numbers_100 rfl ?_ ?_
        · refine j_iconst dX11_numbers_129 (inr_d rfl) ?_
          exact j_zret hq dX11_numbers_130
        · refine j_aload_n dX11_numbers_103 rfl rfl ?_
          refine j_getR fl_RX11_65 sh_100 rfl dX11_numbers_104 ?_
          refine j_aload_n dX11_numbers_107 rfl rfl ?_
          refine j_getI fl_RX11_161 sh_100 rfl dX11_numbers_108 ?_
          refine j_iald sh_116 dX11_numbers_111 (fun v12 => ?_)
          refine j_iload_n dX11_numbers_112 rfl rfl ?_
          refine j_iload_n dX11_numbers_113 rfl rfl ?_
          refine j_iconst dX11_numbers_114 (inr_d rfl) ?_
          refine j_isub dX11_numbers_115 ?_
          refine j_jn (fun k126 => ∀ (u13 : Int) (s14 : Mem), J K rmX11_numbers cX11_numbers RX11 5 126 [some (.inr (.inr 100)), some (.inl c1), some (.inl x2), none, some (.inl y9)] [.inl u13, .inl v12] s14 (k126 u13 s14)) (fun u13 s14 => ?_) (fun k126 hk126 => ?_)
          · refine j_icmp_eq (tgt := 131) dX11_numbers_126 rfl ?_ ?_
            · refine j_aload_n dX11_numbers_131 rfl rfl ?_
              refine j_getR fl_RX11_95 sh_100 rfl dX11_numbers_132 ?_
              refine j_iload_n dX11_numbers_135 rfl rfl ?_
              refine j_iload dX11_numbers_136 rfl ?_
              refine j_iast sh_126 dX11_numbers_138 (fun s15 => ?_)
              refine j_aload_n dX11_numbers_139 rfl rfl ?_
              refine j_dup rfl dX11_numbers_140 ?_
              refine j_getI fl_RX11_161 sh_100 rfl dX11_numbers_141 ?_
              refine j_iconst dX11_numbers_144 (inr_d rfl) ?_
              refine j_iadd dX11_numbers_145 ?_
              refine j_putI fp_RX11_161 sh_100 rfl dX11_numbers_146 (fun s16 => ?_)
              refine j_iincE (ls2 := [some (.inr (.inr 100)), some (.inl c1), some (.inl (wr (x2 + 1))), none, some (.inl y9)]) dX11_numbers_149 rfl (by decide) rfl rfl ?_
              refine j_goto (tgt := 2) dX11_numbers_152 rfl ?_
              exact j_msk [true, true, true, false, false] (ih _ _)
            · refine j_iconst dX11_numbers_129 (inr_d rfl) ?_
              exact j_zret hq dX11_numbers_130
          refine j_icmp_ge (tgt := 124) dX11_numbers_116 rfl ?_ ?_
          · refine j_bipush (v := 59) dX11_numbers_124 (by decide +kernel) (inr_d rfl) ?_
            exact j_msk [true, true, true, false, true] (hk126 _ _)
          · refine j_bipush (v := 44) dX11_numbers_119 (by decide +kernel) (inr_d rfl) ?_
            refine j_goto (tgt := 126) dX11_numbers_121 rfl ?_
            exact j_msk [true, true, true, false, true] (hk126 _ _)
set_option maxRecDepth 100000 in
set_option maxHeartbeats 4000000 in
theorem mX11_numbers (l : Launch) (D : va_G) (ad : Nat → Nat) (cA : Nat → ClassId) (a1 : Int) (s0 : Mem) : MCi l D ad cA yX11_numbers cX11_numbers 5 (some .boolean) rmX11_numbers [.inr (.inr 100), .inl a1] s0 (fX11_numbers a1 s0) := by
  refine MCi_ofE (own := RX11) (ls := [some (.inr (.inr 100)), some (.inl a1), none, none, none]) 3 (by decide +kernel) rfl rfl (fun _ => Nat.le_of_ble_eq_true rfl) (fun K hq => ?_)
  unfold fX11_numbers
  refine j_iconst dX11_numbers_0 (inr_d rfl) ?_
  refine j_istore_nE (ls2 := [some (.inr (.inr 100)), some (.inl a1), some (.inl 0), none, none]) dX11_numbers_1 rfl (by decide) rfl rfl ?_
  refine j_msk [true, true, true, false, false] (jLX11_numbers_2 hq _ _ (fun s17 => ?_) _ _ _)
  refine j_iconst dX11_numbers_155 (inr_d rfl) ?_
  exact j_zret hq dX11_numbers_156
abbrev rmX11_areLights : Room := { frames := 1, cells := 0, slots := 0, locals := 22 }
theorem dX11_areLights_0 : decode cX11_areLights 0 = .ok (.aload_n 0, 1) := by decide +kernel
theorem dX11_areLights_1 : decode cX11_areLights 1 = .ok (.getfield 95, 3) := by decide +kernel
theorem dX11_areLights_4 : decode cX11_areLights 4 = .ok (.iload_n 1, 1) := by decide +kernel
theorem dX11_areLights_5 : decode cX11_areLights 5 = .ok (.iaload, 1) := by decide +kernel
theorem dX11_areLights_6 : decode cX11_areLights 6 = .ok (.iconst 1, 1) := by decide +kernel
theorem dX11_areLights_7 : decode cX11_areLights 7 = .ok (.bipush 50, 2) := by decide +kernel
theorem dX11_areLights_9 : decode cX11_areLights 9 = .ok (.invokestatic 125, 3) := by decide +kernel
theorem dX11_areLights_12 : decode cX11_areLights 12 = .ok (.ifCond .eq 41, 3) := by decide +kernel
theorem dX11_areLights_15 : decode cX11_areLights 15 = .ok (.aload_n 0, 1) := by decide +kernel
theorem dX11_areLights_16 : decode cX11_areLights 16 = .ok (.getfield 95, 3) := by decide +kernel
theorem dX11_areLights_19 : decode cX11_areLights 19 = .ok (.iload_n 1, 1) := by decide +kernel
theorem dX11_areLights_20 : decode cX11_areLights 20 = .ok (.iconst 1, 1) := by decide +kernel
theorem dX11_areLights_21 : decode cX11_areLights 21 = .ok (.iadd, 1) := by decide +kernel
theorem dX11_areLights_22 : decode cX11_areLights 22 = .ok (.iaload, 1) := by decide +kernel
theorem dX11_areLights_23 : decode cX11_areLights 23 = .ok (.iconst 1, 1) := by decide +kernel
theorem dX11_areLights_24 : decode cX11_areLights 24 = .ok (.bipush 50, 2) := by decide +kernel
theorem dX11_areLights_26 : decode cX11_areLights 26 = .ok (.invokestatic 125, 3) := by decide +kernel
theorem dX11_areLights_29 : decode cX11_areLights 29 = .ok (.ifCond .eq 24, 3) := by decide +kernel
theorem dX11_areLights_32 : decode cX11_areLights 32 = .ok (.aload_n 0, 1) := by decide +kernel
theorem dX11_areLights_33 : decode cX11_areLights 33 = .ok (.getfield 95, 3) := by decide +kernel
theorem dX11_areLights_36 : decode cX11_areLights 36 = .ok (.iload_n 1, 1) := by decide +kernel
theorem dX11_areLights_37 : decode cX11_areLights 37 = .ok (.iconst 2, 1) := by decide +kernel
theorem dX11_areLights_38 : decode cX11_areLights 38 = .ok (.iadd, 1) := by decide +kernel
theorem dX11_areLights_39 : decode cX11_areLights 39 = .ok (.iaload, 1) := by decide +kernel
theorem dX11_areLights_40 : decode cX11_areLights 40 = .ok (.iconst 1, 1) := by decide +kernel
theorem dX11_areLights_41 : decode cX11_areLights 41 = .ok (.bipush 50, 2) := by decide +kernel
theorem dX11_areLights_43 : decode cX11_areLights 43 = .ok (.invokestatic 125, 3) := by decide +kernel
theorem dX11_areLights_46 : decode cX11_areLights 46 = .ok (.ifCond .eq 7, 3) := by decide +kernel
theorem dX11_areLights_49 : decode cX11_areLights 49 = .ok (.iconst 1, 1) := by decide +kernel
theorem dX11_areLights_50 : decode cX11_areLights 50 = .ok (.goto 4, 3) := by decide +kernel
theorem dX11_areLights_53 : decode cX11_areLights 53 = .ok (.iconst 0, 1) := by decide +kernel
theorem dX11_areLights_54 : decode cX11_areLights 54 = .ok (.ireturn, 1) := by decide +kernel
def fX11_areLights (a1 : Int) (s0 : Mem) : Option Res :=
 rd (s0 126) a1 5 (fun v1 =>
 bnd (fX11_in v1 1 50 s0) (fun r2 s3 =>
 (if r2 = 0 then
 zr 0 s3
 else
 rd (s3 126) (wr (a1 + 1)) 5 (fun v4 =>
 bnd (fX11_in v4 1 50 s3) (fun r5 s6 =>
 (if r5 = 0 then
 zr 0 s6
 else
 rd (s6 126) (wr (a1 + 2)) 5 (fun v7 =>
 bnd (fX11_in v7 1 50 s6) (fun r8 s9 =>
 (if r8 = 0 then
 zr 0 s9
 else
 zr 1 s9)))))))))
set_option maxRecDepth 100000 in
set_option maxHeartbeats 4000000 in
theorem mX11_areLights (l : Launch) (D : va_G) (ad : Nat → Nat) (cA : Nat → ClassId) (a1 : Int) (s0 : Mem) : MCi l D ad cA yX11_areLights cX11_areLights 2 (some .boolean) rmX11_areLights [.inr (.inr 100), .inl a1] s0 (fX11_areLights a1 s0) := by
  refine MCi_ofE (own := RX11) (ls := [some (.inr (.inr 100)), some (.inl a1)]) 0 (by decide +kernel) rfl rfl (fun _ => Nat.le_of_ble_eq_true rfl) (fun K hq => ?_)
  unfold fX11_areLights
  refine j_aload_n dX11_areLights_0 rfl rfl ?_
  refine j_getR fl_RX11_95 sh_100 rfl dX11_areLights_1 ?_
  refine j_iload_n dX11_areLights_4 rfl rfl ?_
  refine j_iald sh_126 dX11_areLights_5 (fun v1 => ?_)
  refine j_iconst dX11_areLights_6 (inr_d rfl) ?_
  refine j_bipush (v := 50) dX11_areLights_7 (by decide +kernel) (inr_d rfl) ?_
  refine j_callSi (mX11_in (kl K) (kD K) (kad K) (kcA K) v1 1 50 s0) cw_RX11_125 ⟨rfl, rfl, by decide, by decide⟩ rfl rfl (Nat.le_of_ble_eq_true rfl) dX11_areLights_9 (fun r2 s3 => ?_)
  refine j_if_eq (tgt := 53) dX11_areLights_12 rfl ?_ ?_
  · refine j_iconst dX11_areLights_53 (inr_d rfl) ?_
    exact j_zret hq dX11_areLights_54
  · refine j_aload_n dX11_areLights_15 rfl rfl ?_
    refine j_getR fl_RX11_95 sh_100 rfl dX11_areLights_16 ?_
    refine j_iload_n dX11_areLights_19 rfl rfl ?_
    refine j_iconst dX11_areLights_20 (inr_d rfl) ?_
    refine j_iadd dX11_areLights_21 ?_
    refine j_iald sh_126 dX11_areLights_22 (fun v4 => ?_)
    refine j_iconst dX11_areLights_23 (inr_d rfl) ?_
    refine j_bipush (v := 50) dX11_areLights_24 (by decide +kernel) (inr_d rfl) ?_
    refine j_callSi (mX11_in (kl K) (kD K) (kad K) (kcA K) v4 1 50 s3) cw_RX11_125 ⟨rfl, rfl, by decide, by decide⟩ rfl rfl (Nat.le_of_ble_eq_true rfl) dX11_areLights_26 (fun r5 s6 => ?_)
    refine j_if_eq (tgt := 53) dX11_areLights_29 rfl ?_ ?_
    · refine j_iconst dX11_areLights_53 (inr_d rfl) ?_
      exact j_zret hq dX11_areLights_54
    · refine j_aload_n dX11_areLights_32 rfl rfl ?_
      refine j_getR fl_RX11_95 sh_100 rfl dX11_areLights_33 ?_
      refine j_iload_n dX11_areLights_36 rfl rfl ?_
      refine j_iconst dX11_areLights_37 (inr_d rfl) ?_
      refine j_iadd dX11_areLights_38 ?_
      refine j_iald sh_126 dX11_areLights_39 (fun v7 => ?_)
      refine j_iconst dX11_areLights_40 (inr_d rfl) ?_
      refine j_bipush (v := 50) dX11_areLights_41 (by decide +kernel) (inr_d rfl) ?_
      refine j_callSi (mX11_in (kl K) (kD K) (kad K) (kcA K) v7 1 50 s6) cw_RX11_125 ⟨rfl, rfl, by decide, by decide⟩ rfl rfl (Nat.le_of_ble_eq_true rfl) dX11_areLights_43 (fun r8 s9 => ?_)
      refine j_if_eq (tgt := 53) dX11_areLights_46 rfl ?_ ?_
      · refine j_iconst dX11_areLights_53 (inr_d rfl) ?_
        exact j_zret hq dX11_areLights_54
      · refine j_iconst dX11_areLights_49 (inr_d rfl) ?_
        refine j_goto (tgt := 54) dX11_areLights_50 rfl ?_
        exact j_zret hq dX11_areLights_54
abbrev rmX11_shotItem : Room := { frames := 2, cells := 0, slots := 0, locals := 46 }
theorem dX11_shotItem_0 : decode cX11_shotItem 0 = .ok (.aload_n 0, 1) := by decide +kernel
theorem dX11_shotItem_1 : decode cX11_shotItem 1 = .ok (.getfield 35, 3) := by decide +kernel
theorem dX11_shotItem_4 : decode cX11_shotItem 4 = .ok (.iconst 0, 1) := by decide +kernel
theorem dX11_shotItem_5 : decode cX11_shotItem 5 = .ok (.iaload, 1) := by decide +kernel
theorem dX11_shotItem_6 : decode cX11_shotItem 6 = .ok (.istore_n 1, 1) := by decide +kernel
theorem dX11_shotItem_7 : decode cX11_shotItem 7 = .ok (.aload_n 0, 1) := by decide +kernel
theorem dX11_shotItem_8 : decode cX11_shotItem 8 = .ok (.iconst 5, 1) := by decide +kernel
theorem dX11_shotItem_9 : decode cX11_shotItem 9 = .ok (.invokevirtual 164, 3) := by decide +kernel
theorem dX11_shotItem_12 : decode cX11_shotItem 12 = .ok (.ifCond .eq 43, 3) := by decide +kernel
theorem dX11_shotItem_15 : decode cX11_shotItem 15 = .ok (.iload_n 1, 1) := by decide +kernel
theorem dX11_shotItem_16 : decode cX11_shotItem 16 = .ok (.bipush 16, 2) := by decide +kernel
theorem dX11_shotItem_18 : decode cX11_shotItem 18 = .ok (.if_icmp .eq 37, 3) := by decide +kernel
theorem dX11_shotItem_21 : decode cX11_shotItem 21 = .ok (.aload_n 0, 1) := by decide +kernel
theorem dX11_shotItem_22 : decode cX11_shotItem 22 = .ok (.getfield 95, 3) := by decide +kernel
theorem dX11_shotItem_25 : decode cX11_shotItem 25 = .ok (.iconst 0, 1) := by decide +kernel
theorem dX11_shotItem_26 : decode cX11_shotItem 26 = .ok (.iaload, 1) := by decide +kernel
theorem dX11_shotItem_27 : decode cX11_shotItem 27 = .ok (.iload_n 1, 1) := by decide +kernel
theorem dX11_shotItem_28 : decode cX11_shotItem 28 = .ok (.if_icmp .ne 27, 3) := by decide +kernel
theorem dX11_shotItem_31 : decode cX11_shotItem 31 = .ok (.aload_n 0, 1) := by decide +kernel
theorem dX11_shotItem_32 : decode cX11_shotItem 32 = .ok (.getfield 95, 3) := by decide +kernel
theorem dX11_shotItem_35 : decode cX11_shotItem 35 = .ok (.iconst 1, 1) := by decide +kernel
theorem dX11_shotItem_36 : decode cX11_shotItem 36 = .ok (.iaload, 1) := by decide +kernel
theorem dX11_shotItem_37 : decode cX11_shotItem 37 = .ok (.iconst 1, 1) := by decide +kernel
theorem dX11_shotItem_38 : decode cX11_shotItem 38 = .ok (.sipush 400, 3) := by decide +kernel
theorem dX11_shotItem_41 : decode cX11_shotItem 41 = .ok (.invokestatic 125, 3) := by decide +kernel
theorem dX11_shotItem_44 : decode cX11_shotItem 44 = .ok (.ifCond .eq 11, 3) := by decide +kernel
theorem dX11_shotItem_47 : decode cX11_shotItem 47 = .ok (.aload_n 0, 1) := by decide +kernel
theorem dX11_shotItem_48 : decode cX11_shotItem 48 = .ok (.iconst 2, 1) := by decide +kernel
theorem dX11_shotItem_49 : decode cX11_shotItem 49 = .ok (.invokevirtual 168, 3) := by decide +kernel
theorem dX11_shotItem_52 : decode cX11_shotItem 52 = .ok (.ifCond .ne 5, 3) := by decide +kernel
theorem dX11_shotItem_55 : decode cX11_shotItem 55 = .ok (.iconst 0, 1) := by decide +kernel
theorem dX11_shotItem_56 : decode cX11_shotItem 56 = .ok (.ireturn, 1) := by decide +kernel
theorem dX11_shotItem_57 : decode cX11_shotItem 57 = .ok (.aload_n 0, 1) := by decide +kernel
theorem dX11_shotItem_58 : decode cX11_shotItem 58 = .ok (.getfield 41, 3) := by decide +kernel
theorem dX11_shotItem_61 : decode cX11_shotItem 61 = .ok (.iload_n 1, 1) := by decide +kernel
theorem dX11_shotItem_62 : decode cX11_shotItem 62 = .ok (.aload_n 0, 1) := by decide +kernel
theorem dX11_shotItem_63 : decode cX11_shotItem 63 = .ok (.getfield 95, 3) := by decide +kernel
theorem dX11_shotItem_66 : decode cX11_shotItem 66 = .ok (.iconst 1, 1) := by decide +kernel
theorem dX11_shotItem_67 : decode cX11_shotItem 67 = .ok (.iaload, 1) := by decide +kernel
theorem dX11_shotItem_68 : decode cX11_shotItem 68 = .ok (.iastore, 1) := by decide +kernel
theorem dX11_shotItem_69 : decode cX11_shotItem 69 = .ok (.iconst 0, 1) := by decide +kernel
theorem dX11_shotItem_70 : decode cX11_shotItem 70 = .ok (.istore_n 2, 1) := by decide +kernel
theorem dX11_shotItem_71 : decode cX11_shotItem 71 = .ok (.iload_n 2, 1) := by decide +kernel
theorem dX11_shotItem_72 : decode cX11_shotItem 72 = .ok (.iconst 3, 1) := by decide +kernel
theorem dX11_shotItem_73 : decode cX11_shotItem 73 = .ok (.if_icmp .ge 27, 3) := by decide +kernel
theorem dX11_shotItem_76 : decode cX11_shotItem 76 = .ok (.aload_n 0, 1) := by decide +kernel
theorem dX11_shotItem_77 : decode cX11_shotItem 77 = .ok (.getfield 44, 3) := by decide +kernel
theorem dX11_shotItem_80 : decode cX11_shotItem 80 = .ok (.iconst 3, 1) := by decide +kernel
theorem dX11_shotItem_81 : decode cX11_shotItem 81 = .ok (.iload_n 1, 1) := by decide +kernel
theorem dX11_shotItem_82 : decode cX11_shotItem 82 = .ok (.imul, 1) := by decide +kernel
theorem dX11_shotItem_83 : decode cX11_shotItem 83 = .ok (.iload_n 2, 1) := by decide +kernel
theorem dX11_shotItem_84 : decode cX11_shotItem 84 = .ok (.iadd, 1) := by decide +kernel
theorem dX11_shotItem_85 : decode cX11_shotItem 85 = .ok (.aload_n 0, 1) := by decide +kernel
theorem dX11_shotItem_86 : decode cX11_shotItem 86 = .ok (.getfield 95, 3) := by decide +kernel
theorem dX11_shotItem_89 : decode cX11_shotItem 89 = .ok (.iconst 2, 1) := by decide +kernel
theorem dX11_shotItem_90 : decode cX11_shotItem 90 = .ok (.iload_n 2, 1) := by decide +kernel
theorem dX11_shotItem_91 : decode cX11_shotItem 91 = .ok (.iadd, 1) := by decide +kernel
theorem dX11_shotItem_92 : decode cX11_shotItem 92 = .ok (.iaload, 1) := by decide +kernel
theorem dX11_shotItem_93 : decode cX11_shotItem 93 = .ok (.iastore, 1) := by decide +kernel
theorem dX11_shotItem_94 : decode cX11_shotItem 94 = .ok (.iinc 2 1, 3) := by decide +kernel
theorem dX11_shotItem_97 : decode cX11_shotItem 97 = .ok (.goto (-26), 3) := by decide +kernel
theorem dX11_shotItem_100 : decode cX11_shotItem 100 = .ok (.aload_n 0, 1) := by decide +kernel
theorem dX11_shotItem_101 : decode cX11_shotItem 101 = .ok (.getfield 47, 3) := by decide +kernel
theorem dX11_shotItem_104 : decode cX11_shotItem 104 = .ok (.iload_n 1, 1) := by decide +kernel
theorem dX11_shotItem_105 : decode cX11_shotItem 105 = .ok (.iconst 0, 1) := by decide +kernel
theorem dX11_shotItem_106 : decode cX11_shotItem 106 = .ok (.iastore, 1) := by decide +kernel
theorem dX11_shotItem_107 : decode cX11_shotItem 107 = .ok (.aload_n 0, 1) := by decide +kernel
theorem dX11_shotItem_108 : decode cX11_shotItem 108 = .ok (.getfield 53, 3) := by decide +kernel
theorem dX11_shotItem_111 : decode cX11_shotItem 111 = .ok (.iload_n 1, 1) := by decide +kernel
theorem dX11_shotItem_112 : decode cX11_shotItem 112 = .ok (.iconst 0, 1) := by decide +kernel
theorem dX11_shotItem_113 : decode cX11_shotItem 113 = .ok (.iastore, 1) := by decide +kernel
theorem dX11_shotItem_114 : decode cX11_shotItem 114 = .ok (.aload_n 0, 1) := by decide +kernel
theorem dX11_shotItem_115 : decode cX11_shotItem 115 = .ok (.getfield 35, 3) := by decide +kernel
theorem dX11_shotItem_118 : decode cX11_shotItem 118 = .ok (.iconst 0, 1) := by decide +kernel
theorem dX11_shotItem_119 : decode cX11_shotItem 119 = .ok (.dup2, 1) := by decide +kernel
theorem dX11_shotItem_120 : decode cX11_shotItem 120 = .ok (.iaload, 1) := by decide +kernel
theorem dX11_shotItem_121 : decode cX11_shotItem 121 = .ok (.iconst 1, 1) := by decide +kernel
theorem dX11_shotItem_122 : decode cX11_shotItem 122 = .ok (.iadd, 1) := by decide +kernel
theorem dX11_shotItem_123 : decode cX11_shotItem 123 = .ok (.iastore, 1) := by decide +kernel
theorem dX11_shotItem_124 : decode cX11_shotItem 124 = .ok (.iconst 1, 1) := by decide +kernel
theorem dX11_shotItem_125 : decode cX11_shotItem 125 = .ok (.ireturn, 1) := by decide +kernel
def LX11_shotItem_71 (c1 : Int) (k100 : Mem → Option Res) : Nat → Int → Mem → Option Res
  | 0 => fun _ _ => none
  | n + 1 => fun x2 s => (if 3 ≤ x2 then
 k100 s
 else
 rd (s 126) (wr (2 + x2)) 5 (fun v12 =>
 ST s 109 (wr ((wr (3 * c1)) + x2)) 192 v12 (fun s13 =>
 LX11_shotItem_71 c1 k100 n (wr (x2 + 1)) s13)))
def fX11_shotItem (s0 : Mem) : Option Res :=
 rd (s0 106) 0 4 (fun v1 =>
 bnd (fX11_numbers 5 s0) (fun r2 s3 =>
 (if r2 = 0 then
 zr 0 s3
 else
 (if v1 = 16 then
 zr 0 s3
 else
 rd (s3 126) 0 5 (fun v4 =>
 (if v4 ≠ v1 then
 zr 0 s3
 else
 rd (s3 126) 1 5 (fun v5 =>
 bnd (fX11_in v5 1 400 s3) (fun r6 s7 =>
 (if r6 = 0 then
 zr 0 s7
 else
 bnd (fX11_areLights 2 s7) (fun r8 s9 =>
 (if r8 ≠ 0 then
 rd (s9 126) 1 5 (fun v10 =>
 ST s9 108 v1 64 v10 (fun s11 =>
 LX11_shotItem_71 v1 (fun s14 =>
 ST s14 110 v1 64 0 (fun s15 =>
 ST s15 112 v1 64 0 (fun s16 =>
 rd (s16 106) 0 4 (fun v17 =>
 ST s16 106 0 4 (wr (v17 + 1)) (fun s18 =>
 zr 1 s18))))) FU 0 s11))
 else
 zr 0 s9)))))))))))
set_option maxRecDepth 100000 in
set_option maxHeartbeats 4000000 in
theorem jLX11_shotItem_71 {K : KT} (hq : KI K (some .boolean)) (c1 : Int) (k100 : Mem → Option Res) (hk100 : ∀ (s : Mem), J K rmX11_shotItem cX11_shotItem RX11 3 100 [some (.inr (.inr 100)), some (.inl c1), none] [] s (k100 s)) : ∀ (n : Nat) (x2 : Int) (s : Mem), J K rmX11_shotItem cX11_shotItem RX11 3 71 [some (.inr (.inr 100)), some (.inl c1), some (.inl x2)] [] s (LX11_shotItem_71 c1 k100 n x2 s) := by
  intro n
  induction n with
  | zero => intros; exact J_none
  | succ n ih =>
    intro x2 s
    show J K _ _ _ _ _ _ _ _ (LX11_shotItem_71 c1 k100 (n + 1) x2 s)
    simp only [LX11_shotItem_71]
    refine j_iload_n dX11_shotItem_71 rfl rfl ?_
    refine j_iconst dX11_shotItem_72 (inr_d rfl) ?_
    refine j_icmp_ge (tgt := 100) dX11_shotItem_73 rfl ?_ ?_
    · exact j_msk [true, true, false] (hk100 _)
    · refine j_aload_n dX11_shotItem_76 rfl rfl ?_
      refine j_getR fl_RX11_44 sh_100 rfl dX11_shotItem_77 ?_
      refine j_iconst dX11_shotItem_80 (inr_d rfl) ?_
      refine j_iload_n dX11_shotItem_81 rfl rfl ?_
      refine j_imul dX11_shotItem_82 ?_
      refine j_iload_n dX11_shotItem_83 rfl rfl ?_
      refine j_iadd dX11_shotItem_84 ?_
      refine j_aload_n dX11_shotItem_85 rfl rfl ?_
      refine j_getR fl_RX11_95 sh_100 rfl dX11_shotItem_86 ?_
      refine j_iconst dX11_shotItem_89 (inr_d rfl) ?_
      refine j_iload_n dX11_shotItem_90 rfl rfl ?_
      refine j_iadd dX11_shotItem_91 ?_
      refine j_iald sh_126 dX11_shotItem_92 (fun v12 => ?_)
      refine j_iast sh_109 dX11_shotItem_93 (fun s13 => ?_)
      refine j_iincE (ls2 := [some (.inr (.inr 100)), some (.inl c1), some (.inl (wr (x2 + 1)))]) dX11_shotItem_94 rfl (by decide) rfl rfl ?_
      refine j_goto (tgt := 71) dX11_shotItem_97 rfl ?_
      exact j_msk [true, true, true] (ih _ _)
set_option maxRecDepth 100000 in
set_option maxHeartbeats 4000000 in
theorem mX11_shotItem (l : Launch) (D : va_G) (ad : Nat → Nat) (cA : Nat → ClassId) (s0 : Mem) : MCi l D ad cA yX11_shotItem cX11_shotItem 3 (some .boolean) rmX11_shotItem [.inr (.inr 100)] s0 (fX11_shotItem s0) := by
  refine MCi_ofE (own := RX11) (ls := [some (.inr (.inr 100)), none, none]) 2 (by decide +kernel) rfl rfl (fun _ => Nat.le_of_ble_eq_true rfl) (fun K hq => ?_)
  unfold fX11_shotItem
  refine j_aload_n dX11_shotItem_0 rfl rfl ?_
  refine j_getR fl_RX11_35 sh_100 rfl dX11_shotItem_1 ?_
  refine j_iconst dX11_shotItem_4 (inr_d rfl) ?_
  refine j_iald sh_106 dX11_shotItem_5 (fun v1 => ?_)
  refine j_istore_nE (ls2 := [some (.inr (.inr 100)), some (.inl v1), none]) dX11_shotItem_6 rfl (by decide) rfl rfl ?_
  refine j_aload_n dX11_shotItem_7 rfl rfl ?_
  refine j_iconst dX11_shotItem_8 (inr_d rfl) ?_
  refine j_callVi (mX11_numbers (kl K) (kD K) (kad K) (kcA K) 5 s0) cw_RX11_164 sh_100 rfl ⟨rfl, rfl, by decide, by decide⟩ rfl rfl (Nat.le_of_ble_eq_true rfl) dX11_shotItem_9 (fun r2 s3 => ?_)
  refine j_if_eq (tgt := 55) dX11_shotItem_12 rfl ?_ ?_
  · refine j_iconst dX11_shotItem_55 (inr_d rfl) ?_
    exact j_zret hq dX11_shotItem_56
  · refine j_iload_n dX11_shotItem_15 rfl rfl ?_
    refine j_bipush (v := 16) dX11_shotItem_16 (by decide +kernel) (inr_d rfl) ?_
    refine j_icmp_eq (tgt := 55) dX11_shotItem_18 rfl ?_ ?_
    · refine j_iconst dX11_shotItem_55 (inr_d rfl) ?_
      exact j_zret hq dX11_shotItem_56
    · refine j_aload_n dX11_shotItem_21 rfl rfl ?_
      refine j_getR fl_RX11_95 sh_100 rfl dX11_shotItem_22 ?_
      refine j_iconst dX11_shotItem_25 (inr_d rfl) ?_
      refine j_iald sh_126 dX11_shotItem_26 (fun v4 => ?_)
      refine j_iload_n dX11_shotItem_27 rfl rfl ?_
      refine j_icmp_ne (tgt := 55) dX11_shotItem_28 rfl ?_ ?_
      · refine j_iconst dX11_shotItem_55 (inr_d rfl) ?_
        exact j_zret hq dX11_shotItem_56
      · refine j_aload_n dX11_shotItem_31 rfl rfl ?_
        refine j_getR fl_RX11_95 sh_100 rfl dX11_shotItem_32 ?_
        refine j_iconst dX11_shotItem_35 (inr_d rfl) ?_
        refine j_iald sh_126 dX11_shotItem_36 (fun v5 => ?_)
        refine j_iconst dX11_shotItem_37 (inr_d rfl) ?_
        refine j_sipush (v := 400) dX11_shotItem_38 (by decide +kernel) (inr_d rfl) ?_
        refine j_callSi (mX11_in (kl K) (kD K) (kad K) (kcA K) v5 1 400 s3) cw_RX11_125 ⟨rfl, rfl, by decide, by decide⟩ rfl rfl (Nat.le_of_ble_eq_true rfl) dX11_shotItem_41 (fun r6 s7 => ?_)
        refine j_if_eq (tgt := 55) dX11_shotItem_44 rfl ?_ ?_
        · refine j_iconst dX11_shotItem_55 (inr_d rfl) ?_
          exact j_zret hq dX11_shotItem_56
        · refine j_aload_n dX11_shotItem_47 rfl rfl ?_
          refine j_iconst dX11_shotItem_48 (inr_d rfl) ?_
          refine j_callVi (mX11_areLights (kl K) (kD K) (kad K) (kcA K) 2 s7) cw_RX11_168 sh_100 rfl ⟨rfl, rfl, by decide, by decide⟩ rfl rfl (Nat.le_of_ble_eq_true rfl) dX11_shotItem_49 (fun r8 s9 => ?_)
          refine j_if_ne (tgt := 57) dX11_shotItem_52 rfl ?_ ?_
          · refine j_aload_n dX11_shotItem_57 rfl rfl ?_
            refine j_getR fl_RX11_41 sh_100 rfl dX11_shotItem_58 ?_
            refine j_iload_n dX11_shotItem_61 rfl rfl ?_
            refine j_aload_n dX11_shotItem_62 rfl rfl ?_
            refine j_getR fl_RX11_95 sh_100 rfl dX11_shotItem_63 ?_
            refine j_iconst dX11_shotItem_66 (inr_d rfl) ?_
            refine j_iald sh_126 dX11_shotItem_67 (fun v10 => ?_)
            refine j_iast sh_108 dX11_shotItem_68 (fun s11 => ?_)
            refine j_iconst dX11_shotItem_69 (inr_d rfl) ?_
            refine j_istore_nE (ls2 := [some (.inr (.inr 100)), some (.inl v1), some (.inl 0)]) dX11_shotItem_70 rfl (by decide) rfl rfl ?_
            refine j_msk [true, true, true] (jLX11_shotItem_71 hq _ _ (fun s14 => ?_) _ _ _)
            refine j_aload_n dX11_shotItem_100 rfl rfl ?_
            refine j_getR fl_RX11_47 sh_100 rfl dX11_shotItem_101 ?_
            refine j_iload_n dX11_shotItem_104 rfl rfl ?_
            refine j_iconst dX11_shotItem_105 (inr_d rfl) ?_
            refine j_iast sh_110 dX11_shotItem_106 (fun s15 => ?_)
            refine j_aload_n dX11_shotItem_107 rfl rfl ?_
            refine j_getR fl_RX11_53 sh_100 rfl dX11_shotItem_108 ?_
            refine j_iload_n dX11_shotItem_111 rfl rfl ?_
            refine j_iconst dX11_shotItem_112 (inr_d rfl) ?_
            refine j_iast sh_112 dX11_shotItem_113 (fun s16 => ?_)
            refine j_aload_n dX11_shotItem_114 rfl rfl ?_
            refine j_getR fl_RX11_35 sh_100 rfl dX11_shotItem_115 ?_
            refine j_iconst dX11_shotItem_118 (inr_d rfl) ?_
            refine j_dup2 (b := 0) dX11_shotItem_119 ?_
            refine j_iald sh_106 dX11_shotItem_120 (fun v17 => ?_)
            refine j_iconst dX11_shotItem_121 (inr_d rfl) ?_
            refine j_iadd dX11_shotItem_122 ?_
            refine j_iast sh_106 dX11_shotItem_123 (fun s18 => ?_)
            refine j_iconst dX11_shotItem_124 (inr_d rfl) ?_
            exact j_zret hq dX11_shotItem_125
          · refine j_iconst dX11_shotItem_55 (inr_d rfl) ?_
            exact j_zret hq dX11_shotItem_56
