abbrev rmX10_list : Room := { frames := 6, cells := 0, slots := 0, locals := 141 }
theorem dX10_list_0 : decode cX10_list 0 = .ok (.iload_n 1, 1) := by decide +kernel
theorem dX10_list_1 : decode cX10_list 1 = .ok (.iconst 0, 1) := by decide +kernel
theorem dX10_list_2 : decode cX10_list 2 = .ok (.iconst 4, 1) := by decide +kernel
theorem dX10_list_3 : decode cX10_list 3 = .ok (.invokestatic 97, 3) := by decide +kernel
theorem dX10_list_6 : decode cX10_list 6 = .ok (.ifCond .ne 5, 3) := by decide +kernel
theorem dX10_list_9 : decode cX10_list 9 = .ok (.iconst (-1), 1) := by decide +kernel
theorem dX10_list_10 : decode cX10_list 10 = .ok (.ireturn, 1) := by decide +kernel
theorem dX10_list_11 : decode cX10_list 11 = .ok (.aload_n 0, 1) := by decide +kernel
theorem dX10_list_12 : decode cX10_list 12 = .ok (.getfield 45, 3) := by decide +kernel
theorem dX10_list_15 : decode cX10_list 15 = .ok (.getfield 171, 3) := by decide +kernel
theorem dX10_list_18 : decode cX10_list 18 = .ok (.astore_n 2, 1) := by decide +kernel
theorem dX10_list_19 : decode cX10_list 19 = .ok (.aload_n 2, 1) := by decide +kernel
theorem dX10_list_20 : decode cX10_list 20 = .ok (.getfield 164, 3) := by decide +kernel
theorem dX10_list_23 : decode cX10_list 23 = .ok (.ifCond .ne 6, 3) := by decide +kernel
theorem dX10_list_26 : decode cX10_list 26 = .ok (.bipush (-2), 2) := by decide +kernel
theorem dX10_list_28 : decode cX10_list 28 = .ok (.ireturn, 1) := by decide +kernel
theorem dX10_list_29 : decode cX10_list 29 = .ok (.iload_n 1, 1) := by decide +kernel
theorem dX10_list_30 : decode cX10_list 30 = .ok (.tableswitch 67 0 3 #[30, 35, 40, 45], 30) := by decide +kernel
theorem dX10_list_60 : decode cX10_list 60 = .ok (.aload_n 2, 1) := by decide +kernel
theorem dX10_list_61 : decode cX10_list 61 = .ok (.getfield 164, 3) := by decide +kernel
theorem dX10_list_64 : decode cX10_list 64 = .ok (.ireturn, 1) := by decide +kernel
theorem dX10_list_65 : decode cX10_list 65 = .ok (.aload_n 2, 1) := by decide +kernel
theorem dX10_list_66 : decode cX10_list 66 = .ok (.invokevirtual 174, 3) := by decide +kernel
theorem dX10_list_69 : decode cX10_list 69 = .ok (.ireturn, 1) := by decide +kernel
theorem dX10_list_70 : decode cX10_list 70 = .ok (.aload_n 2, 1) := by decide +kernel
theorem dX10_list_71 : decode cX10_list 71 = .ok (.invokevirtual 198, 3) := by decide +kernel
theorem dX10_list_74 : decode cX10_list 74 = .ok (.ireturn, 1) := by decide +kernel
theorem dX10_list_75 : decode cX10_list 75 = .ok (.aload_n 0, 1) := by decide +kernel
theorem dX10_list_76 : decode cX10_list 76 = .ok (.getfield 58, 3) := by decide +kernel
theorem dX10_list_79 : decode cX10_list 79 = .ok (.aload_n 2, 1) := by decide +kernel
theorem dX10_list_80 : decode cX10_list 80 = .ok (.aload_n 0, 1) := by decide +kernel
theorem dX10_list_81 : decode cX10_list 81 = .ok (.getfield 25, 3) := by decide +kernel
theorem dX10_list_84 : decode cX10_list 84 = .ok (.iconst 0, 1) := by decide +kernel
theorem dX10_list_85 : decode cX10_list 85 = .ok (.iaload, 1) := by decide +kernel
theorem dX10_list_86 : decode cX10_list 86 = .ok (.invokevirtual 188, 3) := by decide +kernel
theorem dX10_list_89 : decode cX10_list 89 = .ok (.aload_n 0, 1) := by decide +kernel
theorem dX10_list_90 : decode cX10_list 90 = .ok (.getfield 58, 3) := by decide +kernel
theorem dX10_list_93 : decode cX10_list 93 = .ok (.getfield 201, 3) := by decide +kernel
theorem dX10_list_96 : decode cX10_list 96 = .ok (.ireturn, 1) := by decide +kernel
theorem dX10_list_97 : decode cX10_list 97 = .ok (.aload_n 2, 1) := by decide +kernel
theorem dX10_list_98 : decode cX10_list 98 = .ok (.invokevirtual 198, 3) := by decide +kernel
theorem dX10_list_101 : decode cX10_list 101 = .ok (.aload_n 2, 1) := by decide +kernel
theorem dX10_list_102 : decode cX10_list 102 = .ok (.invokevirtual 174, 3) := by decide +kernel
theorem dX10_list_105 : decode cX10_list 105 = .ok (.invokestatic 204, 3) := by decide +kernel
theorem dX10_list_108 : decode cX10_list 108 = .ok (.imul, 1) := by decide +kernel
theorem dX10_list_109 : decode cX10_list 109 = .ok (.ireturn, 1) := by decide +kernel
def fX10_list (a1 : Int) (s0 : Mem) : Option Res :=
 bnd (fX10_isWithin a1 0 4 s0) (fun r1 s2 =>
 (if r1 ≠ 0 then
 (if s2 21 0 ≠ 0 then
 (if a1 = 0 then
 some (s2 21 0, s2)
 else
 (if a1 = 1 then
 bnd (fX6_frames 21 s2) (fun r3 s4 =>
 some (r3, s4))
 else
 (if a1 = 2 then
 bnd (fX6_copiesOrOne 21 s2) (fun r5 s6 =>
 some (r5, s6))
 else
 (if a1 = 3 then
 rd (s2 7) 0 4 (fun v7 =>
 bnd (fX0_walk 21 v7 s2) (fun _ s9 =>
 some (s9 77 2, s9)))
 else
 bnd (fX6_copiesOrOne 21 s2) (fun r10 s11 =>
 bnd (fX6_frames 21 s11) (fun r12 s13 =>
 bnd (fX10_feetOf r12 s13) (fun r14 s15 =>
 some (wr (r10 * r14), s15))))))))
 else
 some ((-2), s2))
 else
 some ((-1), s2)))
set_option maxRecDepth 100000 in
set_option maxHeartbeats 4000000 in
theorem mX10_list (l : Launch) (D : va_G) (ad : Nat → Nat) (cA : Nat → ClassId) (a1 : Int) (s0 : Mem) : MCi l D ad cA yX10_list cX10_list 3 (some .int) rmX10_list [.inr (.inr 0), .inl a1] s0 (fX10_list a1 s0) := by
  refine MCi_ofE (own := RX10) (ls := [some (.inr (.inr 0)), some (.inl a1), none]) 1 (by decide +kernel) rfl rfl (fun _ => Nat.le_of_ble_eq_true rfl) (fun K hq => ?_)
  unfold fX10_list
  refine j_iload_n dX10_list_0 rfl rfl ?_
  refine j_iconst dX10_list_1 (inr_d rfl) ?_
  refine j_iconst dX10_list_2 (inr_d rfl) ?_
  refine j_callSi (mX10_isWithin (kl K) (kD K) (kad K) (kcA K) a1 0 4 s0) cw_RX10_97 ⟨rfl, rfl, by decide, by decide⟩ rfl rfl (Nat.le_of_ble_eq_true rfl) dX10_list_3 (fun r1 s2 => ?_)
  refine j_if_ne (tgt := 11) dX10_list_6 rfl ?_ ?_
  · refine j_aload_n dX10_list_11 rfl rfl ?_
    refine j_getR fl_RX10_45 sh_0 rfl dX10_list_12 ?_
    refine j_getR fl_RX10_171 sh_20 rfl dX10_list_15 ?_
    refine j_astore_nE (ls2 := [some (.inr (.inr 0)), some (.inl a1), some (.inr (.inr 21))]) dX10_list_18 rfl (by decide) rfl rfl ?_
    refine j_aload_n dX10_list_19 rfl rfl ?_
    refine j_getI fl_RX10_164 sh_21 rfl dX10_list_20 ?_
    refine j_if_ne (tgt := 29) dX10_list_23 rfl ?_ ?_
    · refine j_iload_n dX10_list_29 rfl rfl ?_
      refine j_if (fun hc0 => ?_) (fun hc0 => ?_)
      · refine j_tsIn (tgt := 60) 0 hc0 dX10_list_30 (by decide) (by decide) rfl rfl ?_
        refine j_aload_n dX10_list_60 rfl rfl ?_
        refine j_getI fl_RX10_164 sh_21 rfl dX10_list_61 ?_
        exact j_iret hq dX10_list_64
      refine j_if (fun hc1 => ?_) (fun hc1 => ?_)
      · refine j_tsIn (tgt := 65) 1 hc1 dX10_list_30 (by decide) (by decide) rfl rfl ?_
        refine j_aload_n dX10_list_65 rfl rfl ?_
        refine j_callVi (mX6_frames (kl K) (kD K) (kad K) (kcA K) 21 isSc_21 s2) cw_RX10_174 sh_21 rfl ⟨rfl, rfl, by decide, by decide⟩ rfl rfl (Nat.le_of_ble_eq_true rfl) dX10_list_66 (fun r3 s4 => ?_)
        exact j_iret hq dX10_list_69
      refine j_if (fun hc2 => ?_) (fun hc2 => ?_)
      · refine j_tsIn (tgt := 70) 2 hc2 dX10_list_30 (by decide) (by decide) rfl rfl ?_
        refine j_aload_n dX10_list_70 rfl rfl ?_
        refine j_callVi (mX6_copiesOrOne (kl K) (kD K) (kad K) (kcA K) 21 isSc_21 s2) cw_RX10_198 sh_21 rfl ⟨rfl, rfl, by decide, by decide⟩ rfl rfl (Nat.le_of_ble_eq_true rfl) dX10_list_71 (fun r5 s6 => ?_)
        exact j_iret hq dX10_list_74
      refine j_if (fun hc3 => ?_) (fun hc3 => ?_)
      · refine j_tsIn (tgt := 75) 3 hc3 dX10_list_30 (by decide) (by decide) rfl rfl ?_
        refine j_aload_n dX10_list_75 rfl rfl ?_
        refine j_getR fl_RX10_58 sh_0 rfl dX10_list_76 ?_
        refine j_aload_n dX10_list_79 rfl rfl ?_
        refine j_aload_n dX10_list_80 rfl rfl ?_
        refine j_getR fl_RX10_25 sh_0 rfl dX10_list_81 ?_
        refine j_iconst dX10_list_84 (inr_d rfl) ?_
        refine j_iald sh_7 dX10_list_85 (fun v7 => ?_)
        refine j_callVv (mX0_walk (kl K) (kD K) (kad K) (kcA K) 21 isSc_21 v7 s2) cw_RX10_188 sh_77 rfl ⟨rfl, rfl, by decide, by decide⟩ rfl rfl (Nat.le_of_ble_eq_true rfl) dX10_list_86 (fun _ s9 => ?_)
        refine j_aload_n dX10_list_89 rfl rfl ?_
        refine j_getR fl_RX10_58 sh_0 rfl dX10_list_90 ?_
        refine j_getI fl_RX10_201 sh_77 rfl dX10_list_93 ?_
        exact j_iret hq dX10_list_96
      refine j_tsOut (tgt := 97) dX10_list_30 (by omega) rfl ?_
      refine j_aload_n dX10_list_97 rfl rfl ?_
      refine j_callVi (mX6_copiesOrOne (kl K) (kD K) (kad K) (kcA K) 21 isSc_21 s2) cw_RX10_198 sh_21 rfl ⟨rfl, rfl, by decide, by decide⟩ rfl rfl (Nat.le_of_ble_eq_true rfl) dX10_list_98 (fun r10 s11 => ?_)
      refine j_aload_n dX10_list_101 rfl rfl ?_
      refine j_callVi (mX6_frames (kl K) (kD K) (kad K) (kcA K) 21 isSc_21 s11) cw_RX10_174 sh_21 rfl ⟨rfl, rfl, by decide, by decide⟩ rfl rfl (Nat.le_of_ble_eq_true rfl) dX10_list_102 (fun r12 s13 => ?_)
      refine j_callSi (mX10_feetOf (kl K) (kD K) (kad K) (kcA K) r12 s13) cw_RX10_204 ⟨rfl, rfl, by decide, by decide⟩ rfl rfl (Nat.le_of_ble_eq_true rfl) dX10_list_105 (fun r14 s15 => ?_)
      refine j_imul dX10_list_108 ?_
      exact j_iret hq dX10_list_109
    · refine j_bipush (v := (-2)) dX10_list_26 (by decide +kernel) (inr_d rfl) ?_
      exact j_iret hq dX10_list_28
  · refine j_iconst dX10_list_9 (inr_d rfl) ?_
    exact j_iret hq dX10_list_10
abbrev rmX10_isShot : Room := { frames := 1, cells := 0, slots := 0, locals := 22 }
theorem dX10_isShot_0 : decode cX10_isShot 0 = .ok (.iload_n 0, 1) := by decide +kernel
theorem dX10_isShot_1 : decode cX10_isShot 1 = .ok (.iconst 0, 1) := by decide +kernel
theorem dX10_isShot_2 : decode cX10_isShot 2 = .ok (.bipush 15, 2) := by decide +kernel
theorem dX10_isShot_4 : decode cX10_isShot 4 = .ok (.invokestatic 97, 3) := by decide +kernel
theorem dX10_isShot_7 : decode cX10_isShot 7 = .ok (.ireturn, 1) := by decide +kernel
def fX10_isShot (a0 : Int) (s0 : Mem) : Option Res :=
 bnd (fX10_isWithin a0 0 15 s0) (fun r1 s2 =>
 zr r1 s2)
set_option maxRecDepth 100000 in
set_option maxHeartbeats 4000000 in
theorem mX10_isShot (l : Launch) (D : va_G) (ad : Nat → Nat) (cA : Nat → ClassId) (a0 : Int) (s0 : Mem) : MCi l D ad cA yX10_isShot cX10_isShot 1 (some .boolean) rmX10_isShot [.inl a0] s0 (fX10_isShot a0 s0) := by
  refine MCi_ofE (own := RX10) (ls := [some (.inl a0)]) 0 (by decide +kernel) rfl rfl (fun _ => Nat.le_of_ble_eq_true rfl) (fun K hq => ?_)
  unfold fX10_isShot
  refine j_iload_n dX10_isShot_0 rfl rfl ?_
  refine j_iconst dX10_isShot_1 (inr_d rfl) ?_
  refine j_bipush (v := 15) dX10_isShot_2 (by decide +kernel) (inr_d rfl) ?_
  refine j_callSi (mX10_isWithin (kl K) (kD K) (kad K) (kcA K) a0 0 15 s0) cw_RX10_97 ⟨rfl, rfl, by decide, by decide⟩ rfl rfl (Nat.le_of_ble_eq_true rfl) dX10_isShot_4 (fun r1 s2 => ?_)
  exact j_zret hq dX10_isShot_7
abbrev rmX10_shot : Room := { frames := 2, cells := 0, slots := 0, locals := 42 }
theorem dX10_shot_0 : decode cX10_shot 0 = .ok (.iload_n 1, 1) := by decide +kernel
theorem dX10_shot_1 : decode cX10_shot 1 = .ok (.invokestatic 207, 3) := by decide +kernel
theorem dX10_shot_4 : decode cX10_shot 4 = .ok (.ifCond .eq 10, 3) := by decide +kernel
theorem dX10_shot_7 : decode cX10_shot 7 = .ok (.iload_n 2, 1) := by decide +kernel
theorem dX10_shot_8 : decode cX10_shot 8 = .ok (.invokestatic 94, 3) := by decide +kernel
theorem dX10_shot_11 : decode cX10_shot 11 = .ok (.ifCond .ne 6, 3) := by decide +kernel
theorem dX10_shot_14 : decode cX10_shot 14 = .ok (.bipush (-100), 2) := by decide +kernel
theorem dX10_shot_16 : decode cX10_shot 16 = .ok (.ireturn, 1) := by decide +kernel
theorem dX10_shot_17 : decode cX10_shot 17 = .ok (.iload_n 1, 1) := by decide +kernel
theorem dX10_shot_18 : decode cX10_shot 18 = .ok (.iconst 3, 1) := by decide +kernel
theorem dX10_shot_19 : decode cX10_shot 19 = .ok (.imul, 1) := by decide +kernel
theorem dX10_shot_20 : decode cX10_shot 20 = .ok (.iload_n 2, 1) := by decide +kernel
theorem dX10_shot_21 : decode cX10_shot 21 = .ok (.iadd, 1) := by decide +kernel
theorem dX10_shot_22 : decode cX10_shot 22 = .ok (.istore 5, 2) := by decide +kernel
theorem dX10_shot_24 : decode cX10_shot 24 = .ok (.iload_n 3, 1) := by decide +kernel
theorem dX10_shot_25 : decode cX10_shot 25 = .ok (.ifCond .ne 29, 3) := by decide +kernel
theorem dX10_shot_28 : decode cX10_shot 28 = .ok (.iload 4, 2) := by decide +kernel
theorem dX10_shot_30 : decode cX10_shot 30 = .ok (.iconst 0, 1) := by decide +kernel
theorem dX10_shot_31 : decode cX10_shot 31 = .ok (.bipush 60, 2) := by decide +kernel
theorem dX10_shot_33 : decode cX10_shot 33 = .ok (.invokestatic 97, 3) := by decide +kernel
theorem dX10_shot_36 : decode cX10_shot 36 = .ok (.ifCond .eq 18, 3) := by decide +kernel
theorem dX10_shot_39 : decode cX10_shot 39 = .ok (.aload_n 0, 1) := by decide +kernel
theorem dX10_shot_40 : decode cX10_shot 40 = .ok (.getfield 45, 3) := by decide +kernel
theorem dX10_shot_43 : decode cX10_shot 43 = .ok (.getfield 210, 3) := by decide +kernel
theorem dX10_shot_46 : decode cX10_shot 46 = .ok (.iload 5, 2) := by decide +kernel
theorem dX10_shot_48 : decode cX10_shot 48 = .ok (.iload 4, 2) := by decide +kernel
theorem dX10_shot_50 : decode cX10_shot 50 = .ok (.invokestatic 111, 3) := by decide +kernel
theorem dX10_shot_53 : decode cX10_shot 53 = .ok (.ireturn, 1) := by decide +kernel
theorem dX10_shot_54 : decode cX10_shot 54 = .ok (.iload_n 3, 1) := by decide +kernel
theorem dX10_shot_55 : decode cX10_shot 55 = .ok (.iconst 1, 1) := by decide +kernel
theorem dX10_shot_56 : decode cX10_shot 56 = .ok (.if_icmp .ne 30, 3) := by decide +kernel
theorem dX10_shot_59 : decode cX10_shot 59 = .ok (.iload 4, 2) := by decide +kernel
theorem dX10_shot_61 : decode cX10_shot 61 = .ok (.iconst (-1), 1) := by decide +kernel
theorem dX10_shot_62 : decode cX10_shot 62 = .ok (.sipush 255, 3) := by decide +kernel
theorem dX10_shot_65 : decode cX10_shot 65 = .ok (.invokestatic 97, 3) := by decide +kernel
theorem dX10_shot_68 : decode cX10_shot 68 = .ok (.ifCond .eq 18, 3) := by decide +kernel
theorem dX10_shot_71 : decode cX10_shot 71 = .ok (.aload_n 0, 1) := by decide +kernel
theorem dX10_shot_72 : decode cX10_shot 72 = .ok (.getfield 45, 3) := by decide +kernel
theorem dX10_shot_75 : decode cX10_shot 75 = .ok (.getfield 213, 3) := by decide +kernel
theorem dX10_shot_78 : decode cX10_shot 78 = .ok (.iload 5, 2) := by decide +kernel
theorem dX10_shot_80 : decode cX10_shot 80 = .ok (.iload 4, 2) := by decide +kernel
theorem dX10_shot_82 : decode cX10_shot 82 = .ok (.invokestatic 111, 3) := by decide +kernel
theorem dX10_shot_85 : decode cX10_shot 85 = .ok (.ireturn, 1) := by decide +kernel
theorem dX10_shot_86 : decode cX10_shot 86 = .ok (.bipush (-100), 2) := by decide +kernel
theorem dX10_shot_88 : decode cX10_shot 88 = .ok (.ireturn, 1) := by decide +kernel
def fX10_shot (a1 : Int) (a2 : Int) (a3 : Int) (a4 : Int) (s0 : Mem) : Option Res :=
 bnd (fX10_isShot a1 s0) (fun r1 s2 =>
 (if r1 = 0 then
 some ((-100), s2)
 else
 bnd (fX10_isColour a2 s2) (fun r3 s4 =>
 (if r3 ≠ 0 then
 lt (wr ((wr (a1 * 3)) + a2)) (fun v5 =>
 jn (fun (s6 : Mem) =>
 (if a3 ≠ 1 then
 some ((-100), s6)
 else
 bnd (fX10_isWithin a4 (-1) 255 s6) (fun r7 s8 =>
 (if r7 = 0 then
 some ((-100), s8)
 else
 bnd (fX10_swap 31 48 v5 a4 s8) (fun r9 s10 =>
 some (r9, s10)))))) (fun k54 =>
 (if a3 ≠ 0 then
 k54 s4
 else
 bnd (fX10_isWithin a4 0 60 s4) (fun r11 s12 =>
 (if r11 = 0 then
 k54 s12
 else
 bnd (fX10_swap 30 48 v5 a4 s12) (fun r13 s14 =>
 some (r13, s14)))))))
 else
 some ((-100), s4)))))
set_option maxRecDepth 100000 in
set_option maxHeartbeats 4000000 in
theorem mX10_shot (l : Launch) (D : va_G) (ad : Nat → Nat) (cA : Nat → ClassId) (a1 : Int) (a2 : Int) (a3 : Int) (a4 : Int) (s0 : Mem) : MCi l D ad cA yX10_shot cX10_shot 6 (some .int) rmX10_shot [.inr (.inr 0), .inl a1, .inl a2, .inl a3, .inl a4] s0 (fX10_shot a1 a2 a3 a4 s0) := by
  refine MCi_ofE (own := RX10) (ls := [some (.inr (.inr 0)), some (.inl a1), some (.inl a2), some (.inl a3), some (.inl a4), none]) 1 (by decide +kernel) rfl rfl (fun _ => Nat.le_of_ble_eq_true rfl) (fun K hq => ?_)
  unfold fX10_shot
  refine j_iload_n dX10_shot_0 rfl rfl ?_
  refine j_callSi (mX10_isShot (kl K) (kD K) (kad K) (kcA K) a1 s0) cw_RX10_207 ⟨rfl, rfl, by decide, by decide⟩ rfl rfl (Nat.le_of_ble_eq_true rfl) dX10_shot_1 (fun r1 s2 => ?_)
  refine j_if_eq (tgt := 14) dX10_shot_4 rfl ?_ ?_
  · refine j_bipush (v := (-100)) dX10_shot_14 (by decide +kernel) (inr_d rfl) ?_
    exact j_iret hq dX10_shot_16
  · refine j_iload_n dX10_shot_7 rfl rfl ?_
    refine j_callSi (mX10_isColour (kl K) (kD K) (kad K) (kcA K) a2 s2) cw_RX10_94 ⟨rfl, rfl, by decide, by decide⟩ rfl rfl (Nat.le_of_ble_eq_true rfl) dX10_shot_8 (fun r3 s4 => ?_)
    refine j_if_ne (tgt := 17) dX10_shot_11 rfl ?_ ?_
    · refine j_iload_n dX10_shot_17 rfl rfl ?_
      refine j_iconst dX10_shot_18 (inr_d rfl) ?_
      refine j_imul dX10_shot_19 ?_
      refine j_iload_n dX10_shot_20 rfl rfl ?_
      refine j_iadd dX10_shot_21 ?_
      refine j_ltv (fun v5 => ?_)
      refine j_istoreE (ls2 := [some (.inr (.inr 0)), some (.inl a1), some (.inl a2), some (.inl a3), some (.inl a4), some (.inl v5)]) dX10_shot_22 (by decide) rfl rfl ?_
      refine j_iload_n dX10_shot_24 rfl rfl ?_
      refine j_jn (fun k54 => ∀ (s6 : Mem), J K rmX10_shot cX10_shot RX10 6 54 [some (.inr (.inr 0)), none, none, some (.inl a3), some (.inl a4), some (.inl v5)] [] s6 (k54 s6)) (fun s6 => ?_) (fun k54 hk54 => ?_)
      · refine j_iload_n dX10_shot_54 rfl rfl ?_
        refine j_iconst dX10_shot_55 (inr_d rfl) ?_
        refine j_icmp_ne (tgt := 86) dX10_shot_56 rfl ?_ ?_
        · refine j_bipush (v := (-100)) dX10_shot_86 (by decide +kernel) (inr_d rfl) ?_
          exact j_iret hq dX10_shot_88
        · refine j_iload dX10_shot_59 rfl ?_
          refine j_iconst dX10_shot_61 (inr_d rfl) ?_
          refine j_sipush (v := 255) dX10_shot_62 (by decide +kernel) (inr_d rfl) ?_
          refine j_callSi (mX10_isWithin (kl K) (kD K) (kad K) (kcA K) a4 (-1) 255 s6) cw_RX10_97 ⟨rfl, rfl, by decide, by decide⟩ rfl rfl (Nat.le_of_ble_eq_true rfl) dX10_shot_65 (fun r7 s8 => ?_)
          refine j_if_eq (tgt := 86) dX10_shot_68 rfl ?_ ?_
          · refine j_bipush (v := (-100)) dX10_shot_86 (by decide +kernel) (inr_d rfl) ?_
            exact j_iret hq dX10_shot_88
          · refine j_aload_n dX10_shot_71 rfl rfl ?_
            refine j_getR fl_RX10_45 sh_0 rfl dX10_shot_72 ?_
            refine j_getR fl_RX10_213 sh_20 rfl dX10_shot_75 ?_
            refine j_iload dX10_shot_78 rfl ?_
            refine j_iload dX10_shot_80 rfl ?_
            refine j_callSi (mX10_swap (kl K) (kD K) (kad K) (kcA K) 31 48 sh_31 (by decide) v5 a4 s8) cw_RX10_111 ⟨rfl, rfl, by decide, by decide⟩ rfl rfl (Nat.le_of_ble_eq_true rfl) dX10_shot_82 (fun r9 s10 => ?_)
            exact j_iret hq dX10_shot_85
      refine j_if_ne (tgt := 54) dX10_shot_25 rfl ?_ ?_
      · exact j_msk [true, false, false, true, true, true] (hk54 _)
      · refine j_iload dX10_shot_28 rfl ?_
        refine j_iconst dX10_shot_30 (inr_d rfl) ?_
        refine j_bipush (v := 60) dX10_shot_31 (by decide +kernel) (inr_d rfl) ?_
        refine j_callSi (mX10_isWithin (kl K) (kD K) (kad K) (kcA K) a4 0 60 s4) cw_RX10_97 ⟨rfl, rfl, by decide, by decide⟩ rfl rfl (Nat.le_of_ble_eq_true rfl) dX10_shot_33 (fun r11 s12 => ?_)
        refine j_if_eq (tgt := 54) dX10_shot_36 rfl ?_ ?_
        · exact j_msk [true, false, false, true, true, true] (hk54 _)
        · refine j_aload_n dX10_shot_39 rfl rfl ?_
          refine j_getR fl_RX10_45 sh_0 rfl dX10_shot_40 ?_
          refine j_getR fl_RX10_210 sh_20 rfl dX10_shot_43 ?_
          refine j_iload dX10_shot_46 rfl ?_
          refine j_iload dX10_shot_48 rfl ?_
          refine j_callSi (mX10_swap (kl K) (kD K) (kad K) (kcA K) 30 48 sh_30 (by decide) v5 a4 s12) cw_RX10_111 ⟨rfl, rfl, by decide, by decide⟩ rfl rfl (Nat.le_of_ble_eq_true rfl) dX10_shot_50 (fun r13 s14 => ?_)
          exact j_iret hq dX10_shot_53
    · refine j_bipush (v := (-100)) dX10_shot_14 (by decide +kernel) (inr_d rfl) ?_
      exact j_iret hq dX10_shot_16
abbrev rmX10_grade : Room := { frames := 5, cells := 0, slots := 0, locals := 124 }
theorem dX10_grade_0 : decode cX10_grade 0 = .ok (.iload_n 1, 1) := by decide +kernel
theorem dX10_grade_1 : decode cX10_grade 1 = .ok (.invokestatic 90, 3) := by decide +kernel
theorem dX10_grade_4 : decode cX10_grade 4 = .ok (.ifCond .eq 28, 3) := by decide +kernel
theorem dX10_grade_7 : decode cX10_grade 7 = .ok (.iload_n 2, 1) := by decide +kernel
theorem dX10_grade_8 : decode cX10_grade 8 = .ok (.invokestatic 105, 3) := by decide +kernel
theorem dX10_grade_11 : decode cX10_grade 11 = .ok (.ifCond .eq 21, 3) := by decide +kernel
theorem dX10_grade_14 : decode cX10_grade 14 = .ok (.iload_n 3, 1) := by decide +kernel
theorem dX10_grade_15 : decode cX10_grade 15 = .ok (.invokestatic 94, 3) := by decide +kernel
theorem dX10_grade_18 : decode cX10_grade 18 = .ok (.ifCond .eq 14, 3) := by decide +kernel
theorem dX10_grade_21 : decode cX10_grade 21 = .ok (.iload 4, 2) := by decide +kernel
theorem dX10_grade_23 : decode cX10_grade 23 = .ok (.iconst (-1), 1) := by decide +kernel
theorem dX10_grade_24 : decode cX10_grade 24 = .ok (.bipush 15, 2) := by decide +kernel
theorem dX10_grade_26 : decode cX10_grade 26 = .ok (.invokestatic 97, 3) := by decide +kernel
theorem dX10_grade_29 : decode cX10_grade 29 = .ok (.ifCond .ne 5, 3) := by decide +kernel
theorem dX10_grade_32 : decode cX10_grade 32 = .ok (.iconst (-1), 1) := by decide +kernel
theorem dX10_grade_33 : decode cX10_grade 33 = .ok (.ireturn, 1) := by decide +kernel
theorem dX10_grade_34 : decode cX10_grade 34 = .ok (.aload_n 0, 1) := by decide +kernel
theorem dX10_grade_35 : decode cX10_grade 35 = .ok (.getfield 45, 3) := by decide +kernel
theorem dX10_grade_38 : decode cX10_grade 38 = .ok (.getfield 171, 3) := by decide +kernel
theorem dX10_grade_41 : decode cX10_grade 41 = .ok (.getfield 164, 3) := by decide +kernel
theorem dX10_grade_44 : decode cX10_grade 44 = .ok (.ifCond .eq 18, 3) := by decide +kernel
theorem dX10_grade_47 : decode cX10_grade 47 = .ok (.iload 4, 2) := by decide +kernel
theorem dX10_grade_49 : decode cX10_grade 49 = .ok (.aload_n 0, 1) := by decide +kernel
theorem dX10_grade_50 : decode cX10_grade 50 = .ok (.getfield 45, 3) := by decide +kernel
theorem dX10_grade_53 : decode cX10_grade 53 = .ok (.getfield 171, 3) := by decide +kernel
theorem dX10_grade_56 : decode cX10_grade 56 = .ok (.getfield 164, 3) := by decide +kernel
theorem dX10_grade_59 : decode cX10_grade 59 = .ok (.if_icmp .lt 6, 3) := by decide +kernel
theorem dX10_grade_62 : decode cX10_grade 62 = .ok (.bipush (-2), 2) := by decide +kernel
theorem dX10_grade_64 : decode cX10_grade 64 = .ok (.ireturn, 1) := by decide +kernel
theorem dX10_grade_65 : decode cX10_grade 65 = .ok (.aload_n 0, 1) := by decide +kernel
theorem dX10_grade_66 : decode cX10_grade 66 = .ok (.getfield 65, 3) := by decide +kernel
theorem dX10_grade_69 : decode cX10_grade 69 = .ok (.aload_n 0, 1) := by decide +kernel
theorem dX10_grade_70 : decode cX10_grade 70 = .ok (.getfield 10, 3) := by decide +kernel
theorem dX10_grade_73 : decode cX10_grade 73 = .ok (.aload_n 0, 1) := by decide +kernel
theorem dX10_grade_74 : decode cX10_grade 74 = .ok (.getfield 45, 3) := by decide +kernel
theorem dX10_grade_77 : decode cX10_grade 77 = .ok (.iload_n 1, 1) := by decide +kernel
theorem dX10_grade_78 : decode cX10_grade 78 = .ok (.iload_n 2, 1) := by decide +kernel
theorem dX10_grade_79 : decode cX10_grade 79 = .ok (.iload_n 3, 1) := by decide +kernel
theorem dX10_grade_80 : decode cX10_grade 80 = .ok (.aload_n 0, 1) := by decide +kernel
theorem dX10_grade_81 : decode cX10_grade 81 = .ok (.getfield 25, 3) := by decide +kernel
theorem dX10_grade_84 : decode cX10_grade 84 = .ok (.iconst 1, 1) := by decide +kernel
theorem dX10_grade_85 : decode cX10_grade 85 = .ok (.iaload, 1) := by decide +kernel
theorem dX10_grade_86 : decode cX10_grade 86 = .ok (.invokevirtual 216, 3) := by decide +kernel
theorem dX10_grade_89 : decode cX10_grade 89 = .ok (.ifCond .ne 6, 3) := by decide +kernel
theorem dX10_grade_92 : decode cX10_grade 92 = .ok (.bipush (-4), 2) := by decide +kernel
theorem dX10_grade_94 : decode cX10_grade 94 = .ok (.ireturn, 1) := by decide +kernel
theorem dX10_grade_95 : decode cX10_grade 95 = .ok (.iload 4, 2) := by decide +kernel
theorem dX10_grade_97 : decode cX10_grade 97 = .ok (.iconst (-1), 1) := by decide +kernel
theorem dX10_grade_98 : decode cX10_grade 98 = .ok (.if_icmp .ne 13, 3) := by decide +kernel
theorem dX10_grade_101 : decode cX10_grade 101 = .ok (.aload_n 0, 1) := by decide +kernel
theorem dX10_grade_102 : decode cX10_grade 102 = .ok (.getfield 65, 3) := by decide +kernel
theorem dX10_grade_105 : decode cX10_grade 105 = .ok (.getfield 220, 3) := by decide +kernel
theorem dX10_grade_108 : decode cX10_grade 108 = .ok (.goto 13, 3) := by decide +kernel
theorem dX10_grade_111 : decode cX10_grade 111 = .ok (.aload_n 0, 1) := by decide +kernel
theorem dX10_grade_112 : decode cX10_grade 112 = .ok (.getfield 65, 3) := by decide +kernel
theorem dX10_grade_115 : decode cX10_grade 115 = .ok (.getfield 223, 3) := by decide +kernel
theorem dX10_grade_118 : decode cX10_grade 118 = .ok (.iload 4, 2) := by decide +kernel
theorem dX10_grade_120 : decode cX10_grade 120 = .ok (.iaload, 1) := by decide +kernel
theorem dX10_grade_121 : decode cX10_grade 121 = .ok (.ireturn, 1) := by decide +kernel
def fX10_grade (a1 : Int) (a2 : Int) (a3 : Int) (a4 : Int) (s0 : Mem) : Option Res :=
 bnd (fX10_isStock a1 s0) (fun r1 s2 =>
 (if r1 = 0 then
 some ((-1), s2)
 else
 bnd (fX10_isBath a2 s2) (fun r3 s4 =>
 (if r3 = 0 then
 some ((-1), s4)
 else
 bnd (fX10_isColour a3 s4) (fun r5 s6 =>
 (if r5 = 0 then
 some ((-1), s6)
 else
 bnd (fX10_isWithin a4 (-1) 15 s6) (fun r7 s8 =>
 (if r7 ≠ 0 then
 (if s8 21 0 = 0 then
 some ((-2), s8)
 else
 (if a4 < s8 21 0 then
 rd (s8 7) 1 4 (fun v9 =>
 bnd (fX1_solve 20 a1 a2 a3 v9 s8) (fun r10 s11 =>
 (if r10 ≠ 0 then
 (if a4 ≠ (-1) then
 rd (s11 82) a4 16 (fun v12 =>
 some (v12, s11))
 else
 some (s11 79 3, s11))
 else
 some ((-4), s11))))
 else
 some ((-2), s8)))
 else
 some ((-1), s8)))))))))
set_option maxRecDepth 100000 in
set_option maxHeartbeats 4000000 in
theorem mX10_grade (l : Launch) (D : va_G) (ad : Nat → Nat) (cA : Nat → ClassId) (a1 : Int) (a2 : Int) (a3 : Int) (a4 : Int) (s0 : Mem) : MCi l D ad cA yX10_grade cX10_grade 5 (some .int) rmX10_grade [.inr (.inr 0), .inl a1, .inl a2, .inl a3, .inl a4] s0 (fX10_grade a1 a2 a3 a4 s0) := by
  refine MCi_ofE (own := RX10) (ls := [some (.inr (.inr 0)), some (.inl a1), some (.inl a2), some (.inl a3), some (.inl a4)]) 0 (by decide +kernel) rfl rfl (fun _ => Nat.le_of_ble_eq_true rfl) (fun K hq => ?_)
  unfold fX10_grade
  refine j_iload_n dX10_grade_0 rfl rfl ?_
  refine j_callSi (mX10_isStock (kl K) (kD K) (kad K) (kcA K) a1 s0) cw_RX10_90 ⟨rfl, rfl, by decide, by decide⟩ rfl rfl (Nat.le_of_ble_eq_true rfl) dX10_grade_1 (fun r1 s2 => ?_)
  refine j_if_eq (tgt := 32) dX10_grade_4 rfl ?_ ?_
  · refine j_iconst dX10_grade_32 (inr_d rfl) ?_
    exact j_iret hq dX10_grade_33
  · refine j_iload_n dX10_grade_7 rfl rfl ?_
    refine j_callSi (mX10_isBath (kl K) (kD K) (kad K) (kcA K) a2 s2) cw_RX10_105 ⟨rfl, rfl, by decide, by decide⟩ rfl rfl (Nat.le_of_ble_eq_true rfl) dX10_grade_8 (fun r3 s4 => ?_)
    refine j_if_eq (tgt := 32) dX10_grade_11 rfl ?_ ?_
    · refine j_iconst dX10_grade_32 (inr_d rfl) ?_
      exact j_iret hq dX10_grade_33
    · refine j_iload_n dX10_grade_14 rfl rfl ?_
      refine j_callSi (mX10_isColour (kl K) (kD K) (kad K) (kcA K) a3 s4) cw_RX10_94 ⟨rfl, rfl, by decide, by decide⟩ rfl rfl (Nat.le_of_ble_eq_true rfl) dX10_grade_15 (fun r5 s6 => ?_)
      refine j_if_eq (tgt := 32) dX10_grade_18 rfl ?_ ?_
      · refine j_iconst dX10_grade_32 (inr_d rfl) ?_
        exact j_iret hq dX10_grade_33
      · refine j_iload dX10_grade_21 rfl ?_
        refine j_iconst dX10_grade_23 (inr_d rfl) ?_
        refine j_bipush (v := 15) dX10_grade_24 (by decide +kernel) (inr_d rfl) ?_
        refine j_callSi (mX10_isWithin (kl K) (kD K) (kad K) (kcA K) a4 (-1) 15 s6) cw_RX10_97 ⟨rfl, rfl, by decide, by decide⟩ rfl rfl (Nat.le_of_ble_eq_true rfl) dX10_grade_26 (fun r7 s8 => ?_)
        refine j_if_ne (tgt := 34) dX10_grade_29 rfl ?_ ?_
        · refine j_aload_n dX10_grade_34 rfl rfl ?_
          refine j_getR fl_RX10_45 sh_0 rfl dX10_grade_35 ?_
          refine j_getR fl_RX10_171 sh_20 rfl dX10_grade_38 ?_
          refine j_getI fl_RX10_164 sh_21 rfl dX10_grade_41 ?_
          refine j_if_eq (tgt := 62) dX10_grade_44 rfl ?_ ?_
          · refine j_bipush (v := (-2)) dX10_grade_62 (by decide +kernel) (inr_d rfl) ?_
            exact j_iret hq dX10_grade_64
          · refine j_iload dX10_grade_47 rfl ?_
            refine j_aload_n dX10_grade_49 rfl rfl ?_
            refine j_getR fl_RX10_45 sh_0 rfl dX10_grade_50 ?_
            refine j_getR fl_RX10_171 sh_20 rfl dX10_grade_53 ?_
            refine j_getI fl_RX10_164 sh_21 rfl dX10_grade_56 ?_
            refine j_icmp_lt (tgt := 65) dX10_grade_59 rfl ?_ ?_
            · refine j_aload_n dX10_grade_65 rfl rfl ?_
              refine j_getR fl_RX10_65 sh_0 rfl dX10_grade_66 ?_
              refine j_aload_n dX10_grade_69 rfl rfl ?_
              refine j_getR fl_RX10_10 sh_0 rfl dX10_grade_70 ?_
              refine j_aload_n dX10_grade_73 rfl rfl ?_
              refine j_getR fl_RX10_45 sh_0 rfl dX10_grade_74 ?_
              refine j_iload_n dX10_grade_77 rfl rfl ?_
              refine j_iload_n dX10_grade_78 rfl rfl ?_
              refine j_iload_n dX10_grade_79 rfl rfl ?_
              refine j_aload_n dX10_grade_80 rfl rfl ?_
              refine j_getR fl_RX10_25 sh_0 rfl dX10_grade_81 ?_
              refine j_iconst dX10_grade_84 (inr_d rfl) ?_
              refine j_iald sh_7 dX10_grade_85 (fun v9 => ?_)
              refine j_callVi (mX1_solve (kl K) (kD K) (kad K) (kcA K) 20 isJo_20 a1 a2 a3 v9 s8) cw_RX10_216 sh_79 rfl ⟨rfl, rfl, by decide, by decide⟩ rfl rfl (Nat.le_of_ble_eq_true rfl) dX10_grade_86 (fun r10 s11 => ?_)
              refine j_if_ne (tgt := 95) dX10_grade_89 rfl ?_ ?_
              · refine j_iload dX10_grade_95 rfl ?_
                refine j_iconst dX10_grade_97 (inr_d rfl) ?_
                refine j_icmp_ne (tgt := 111) dX10_grade_98 rfl ?_ ?_
                · refine j_aload_n dX10_grade_111 rfl rfl ?_
                  refine j_getR fl_RX10_65 sh_0 rfl dX10_grade_112 ?_
                  refine j_getR fl_RX10_223 sh_79 rfl dX10_grade_115 ?_
                  refine j_iload dX10_grade_118 rfl ?_
                  refine j_iald sh_82 dX10_grade_120 (fun v12 => ?_)
                  exact j_iret hq dX10_grade_121
                · refine j_aload_n dX10_grade_101 rfl rfl ?_
                  refine j_getR fl_RX10_65 sh_0 rfl dX10_grade_102 ?_
                  refine j_getI fl_RX10_220 sh_79 rfl dX10_grade_105 ?_
                  refine j_goto (tgt := 121) dX10_grade_108 rfl ?_
                  exact j_iret hq dX10_grade_121
              · refine j_bipush (v := (-4)) dX10_grade_92 (by decide +kernel) (inr_d rfl) ?_
                exact j_iret hq dX10_grade_94
            · refine j_bipush (v := (-2)) dX10_grade_62 (by decide +kernel) (inr_d rfl) ?_
              exact j_iret hq dX10_grade_64
        · refine j_iconst dX10_grade_32 (inr_d rfl) ?_
          exact j_iret hq dX10_grade_33
abbrev rmX10_frameTone : Room := { frames := 4, cells := 0, slots := 0, locals := 93 }
theorem dX10_frameTone_0 : decode cX10_frameTone 0 = .ok (.iload_n 1, 1) := by decide +kernel
theorem dX10_frameTone_1 : decode cX10_frameTone 1 = .ok (.invokestatic 90, 3) := by decide +kernel
theorem dX10_frameTone_4 : decode cX10_frameTone 4 = .ok (.ifCond .eq 22, 3) := by decide +kernel
theorem dX10_frameTone_7 : decode cX10_frameTone 7 = .ok (.iload_n 2, 1) := by decide +kernel
theorem dX10_frameTone_8 : decode cX10_frameTone 8 = .ok (.invokestatic 105, 3) := by decide +kernel
theorem dX10_frameTone_11 : decode cX10_frameTone 11 = .ok (.ifCond .eq 15, 3) := by decide +kernel
theorem dX10_frameTone_14 : decode cX10_frameTone 14 = .ok (.iload_n 3, 1) := by decide +kernel
theorem dX10_frameTone_15 : decode cX10_frameTone 15 = .ok (.invokestatic 94, 3) := by decide +kernel
theorem dX10_frameTone_18 : decode cX10_frameTone 18 = .ok (.ifCond .eq 8, 3) := by decide +kernel
theorem dX10_frameTone_21 : decode cX10_frameTone 21 = .ok (.iload 4, 2) := by decide +kernel
theorem dX10_frameTone_23 : decode cX10_frameTone 23 = .ok (.ifCond .ge 5, 3) := by decide +kernel
theorem dX10_frameTone_26 : decode cX10_frameTone 26 = .ok (.iconst (-1), 1) := by decide +kernel
theorem dX10_frameTone_27 : decode cX10_frameTone 27 = .ok (.ireturn, 1) := by decide +kernel
theorem dX10_frameTone_28 : decode cX10_frameTone 28 = .ok (.aload_n 0, 1) := by decide +kernel
theorem dX10_frameTone_29 : decode cX10_frameTone 29 = .ok (.getfield 45, 3) := by decide +kernel
theorem dX10_frameTone_32 : decode cX10_frameTone 32 = .ok (.getfield 171, 3) := by decide +kernel
theorem dX10_frameTone_35 : decode cX10_frameTone 35 = .ok (.iload 4, 2) := by decide +kernel
theorem dX10_frameTone_37 : decode cX10_frameTone 37 = .ok (.invokevirtual 178, 3) := by decide +kernel
theorem dX10_frameTone_40 : decode cX10_frameTone 40 = .ok (.ifCond .ne 6, 3) := by decide +kernel
theorem dX10_frameTone_43 : decode cX10_frameTone 43 = .ok (.bipush (-2), 2) := by decide +kernel
theorem dX10_frameTone_45 : decode cX10_frameTone 45 = .ok (.ireturn, 1) := by decide +kernel
theorem dX10_frameTone_46 : decode cX10_frameTone 46 = .ok (.aload_n 0, 1) := by decide +kernel
theorem dX10_frameTone_47 : decode cX10_frameTone 47 = .ok (.getfield 45, 3) := by decide +kernel
theorem dX10_frameTone_50 : decode cX10_frameTone 50 = .ok (.getfield 210, 3) := by decide +kernel
theorem dX10_frameTone_53 : decode cX10_frameTone 53 = .ok (.aload_n 0, 1) := by decide +kernel
theorem dX10_frameTone_54 : decode cX10_frameTone 54 = .ok (.getfield 45, 3) := by decide +kernel
theorem dX10_frameTone_57 : decode cX10_frameTone 57 = .ok (.getfield 171, 3) := by decide +kernel
theorem dX10_frameTone_60 : decode cX10_frameTone 60 = .ok (.iload 4, 2) := by decide +kernel
theorem dX10_frameTone_62 : decode cX10_frameTone 62 = .ok (.invokevirtual 185, 3) := by decide +kernel
theorem dX10_frameTone_65 : decode cX10_frameTone 65 = .ok (.iconst 3, 1) := by decide +kernel
theorem dX10_frameTone_66 : decode cX10_frameTone 66 = .ok (.imul, 1) := by decide +kernel
theorem dX10_frameTone_67 : decode cX10_frameTone 67 = .ok (.iload_n 3, 1) := by decide +kernel
theorem dX10_frameTone_68 : decode cX10_frameTone 68 = .ok (.iadd, 1) := by decide +kernel
theorem dX10_frameTone_69 : decode cX10_frameTone 69 = .ok (.iaload, 1) := by decide +kernel
theorem dX10_frameTone_70 : decode cX10_frameTone 70 = .ok (.istore 5, 2) := by decide +kernel
theorem dX10_frameTone_72 : decode cX10_frameTone 72 = .ok (.aload_n 0, 1) := by decide +kernel
theorem dX10_frameTone_73 : decode cX10_frameTone 73 = .ok (.getfield 10, 3) := by decide +kernel
theorem dX10_frameTone_76 : decode cX10_frameTone 76 = .ok (.iload_n 1, 1) := by decide +kernel
theorem dX10_frameTone_77 : decode cX10_frameTone 77 = .ok (.iload_n 3, 1) := by decide +kernel
theorem dX10_frameTone_78 : decode cX10_frameTone 78 = .ok (.aload_n 0, 1) := by decide +kernel
theorem dX10_frameTone_79 : decode cX10_frameTone 79 = .ok (.getfield 45, 3) := by decide +kernel
theorem dX10_frameTone_82 : decode cX10_frameTone 82 = .ok (.getfield 171, 3) := by decide +kernel
theorem dX10_frameTone_85 : decode cX10_frameTone 85 = .ok (.iload 4, 2) := by decide +kernel
theorem dX10_frameTone_87 : decode cX10_frameTone 87 = .ok (.iload_n 3, 1) := by decide +kernel
theorem dX10_frameTone_88 : decode cX10_frameTone 88 = .ok (.invokevirtual 181, 3) := by decide +kernel
theorem dX10_frameTone_91 : decode cX10_frameTone 91 = .ok (.iload 5, 2) := by decide +kernel
theorem dX10_frameTone_93 : decode cX10_frameTone 93 = .ok (.iload_n 2, 1) := by decide +kernel
theorem dX10_frameTone_94 : decode cX10_frameTone 94 = .ok (.invokevirtual 145, 3) := by decide +kernel
theorem dX10_frameTone_97 : decode cX10_frameTone 97 = .ok (.ireturn, 1) := by decide +kernel
def fX10_frameTone (a1 : Int) (a2 : Int) (a3 : Int) (a4 : Int) (s0 : Mem) : Option Res :=
 bnd (fX10_isStock a1 s0) (fun r1 s2 =>
 (if r1 = 0 then
 some ((-1), s2)
 else
 bnd (fX10_isBath a2 s2) (fun r3 s4 =>
 (if r3 = 0 then
 some ((-1), s4)
 else
 bnd (fX10_isColour a3 s4) (fun r5 s6 =>
 (if r5 = 0 then
 some ((-1), s6)
 else
 (if 0 ≤ a4 then
 bnd (fX6_hasFrame 21 a4 s6) (fun r7 s8 =>
 (if r7 ≠ 0 then
 bnd (fX6_shotAt 21 a4 s8) (fun r9 s10 =>
 rd (s10 30) (wr ((wr (r9 * 3)) + a3)) 48 (fun v11 =>
 bnd (fX6_lightAt 21 a4 a3 s10) (fun r12 s13 =>
 bnd (fX9_printed a1 a3 r12 v11 a2 s13) (fun r14 s15 =>
 some (r14, s15)))))
 else
 some ((-2), s8)))
 else
 some ((-1), s6))))))))
set_option maxRecDepth 100000 in
set_option maxHeartbeats 4000000 in
theorem mX10_frameTone (l : Launch) (D : va_G) (ad : Nat → Nat) (cA : Nat → ClassId) (a1 : Int) (a2 : Int) (a3 : Int) (a4 : Int) (s0 : Mem) : MCi l D ad cA yX10_frameTone cX10_frameTone 6 (some .int) rmX10_frameTone [.inr (.inr 0), .inl a1, .inl a2, .inl a3, .inl a4] s0 (fX10_frameTone a1 a2 a3 a4 s0) := by
  refine MCi_ofE (own := RX10) (ls := [some (.inr (.inr 0)), some (.inl a1), some (.inl a2), some (.inl a3), some (.inl a4), none]) 1 (by decide +kernel) rfl rfl (fun _ => Nat.le_of_ble_eq_true rfl) (fun K hq => ?_)
  unfold fX10_frameTone
  refine j_iload_n dX10_frameTone_0 rfl rfl ?_
  refine j_callSi (mX10_isStock (kl K) (kD K) (kad K) (kcA K) a1 s0) cw_RX10_90 ⟨rfl, rfl, by decide, by decide⟩ rfl rfl (Nat.le_of_ble_eq_true rfl) dX10_frameTone_1 (fun r1 s2 => ?_)
  refine j_if_eq (tgt := 26) dX10_frameTone_4 rfl ?_ ?_
  · refine j_iconst dX10_frameTone_26 (inr_d rfl) ?_
    exact j_iret hq dX10_frameTone_27
  · refine j_iload_n dX10_frameTone_7 rfl rfl ?_
    refine j_callSi (mX10_isBath (kl K) (kD K) (kad K) (kcA K) a2 s2) cw_RX10_105 ⟨rfl, rfl, by decide, by decide⟩ rfl rfl (Nat.le_of_ble_eq_true rfl) dX10_frameTone_8 (fun r3 s4 => ?_)
    refine j_if_eq (tgt := 26) dX10_frameTone_11 rfl ?_ ?_
    · refine j_iconst dX10_frameTone_26 (inr_d rfl) ?_
      exact j_iret hq dX10_frameTone_27
    · refine j_iload_n dX10_frameTone_14 rfl rfl ?_
      refine j_callSi (mX10_isColour (kl K) (kD K) (kad K) (kcA K) a3 s4) cw_RX10_94 ⟨rfl, rfl, by decide, by decide⟩ rfl rfl (Nat.le_of_ble_eq_true rfl) dX10_frameTone_15 (fun r5 s6 => ?_)
      refine j_if_eq (tgt := 26) dX10_frameTone_18 rfl ?_ ?_
      · refine j_iconst dX10_frameTone_26 (inr_d rfl) ?_
        exact j_iret hq dX10_frameTone_27
      · refine j_iload dX10_frameTone_21 rfl ?_
        refine j_if_ge (tgt := 28) dX10_frameTone_23 rfl ?_ ?_
        · refine j_aload_n dX10_frameTone_28 rfl rfl ?_
          refine j_getR fl_RX10_45 sh_0 rfl dX10_frameTone_29 ?_
          refine j_getR fl_RX10_171 sh_20 rfl dX10_frameTone_32 ?_
          refine j_iload dX10_frameTone_35 rfl ?_
          refine j_callVi (mX6_hasFrame (kl K) (kD K) (kad K) (kcA K) 21 isSc_21 a4 s6) cw_RX10_178 sh_21 rfl ⟨rfl, rfl, by decide, by decide⟩ rfl rfl (Nat.le_of_ble_eq_true rfl) dX10_frameTone_37 (fun r7 s8 => ?_)
          refine j_if_ne (tgt := 46) dX10_frameTone_40 rfl ?_ ?_
          · refine j_aload_n dX10_frameTone_46 rfl rfl ?_
            refine j_getR fl_RX10_45 sh_0 rfl dX10_frameTone_47 ?_
            refine j_getR fl_RX10_210 sh_20 rfl dX10_frameTone_50 ?_
            refine j_aload_n dX10_frameTone_53 rfl rfl ?_
            refine j_getR fl_RX10_45 sh_0 rfl dX10_frameTone_54 ?_
            refine j_getR fl_RX10_171 sh_20 rfl dX10_frameTone_57 ?_
            refine j_iload dX10_frameTone_60 rfl ?_
            refine j_callVi (mX6_shotAt (kl K) (kD K) (kad K) (kcA K) 21 isSc_21 a4 s8) cw_RX10_185 sh_21 rfl ⟨rfl, rfl, by decide, by decide⟩ rfl rfl (Nat.le_of_ble_eq_true rfl) dX10_frameTone_62 (fun r9 s10 => ?_)
            refine j_iconst dX10_frameTone_65 (inr_d rfl) ?_
            refine j_imul dX10_frameTone_66 ?_
            refine j_iload_n dX10_frameTone_67 rfl rfl ?_
            refine j_iadd dX10_frameTone_68 ?_
            refine j_iald sh_30 dX10_frameTone_69 (fun v11 => ?_)
            refine j_istoreE (ls2 := [some (.inr (.inr 0)), some (.inl a1), some (.inl a2), some (.inl a3), some (.inl a4), some (.inl v11)]) dX10_frameTone_70 (by decide) rfl rfl ?_
            refine j_aload_n dX10_frameTone_72 rfl rfl ?_
            refine j_getR fl_RX10_10 sh_0 rfl dX10_frameTone_73 ?_
            refine j_iload_n dX10_frameTone_76 rfl rfl ?_
            refine j_iload_n dX10_frameTone_77 rfl rfl ?_
            refine j_aload_n dX10_frameTone_78 rfl rfl ?_
            refine j_getR fl_RX10_45 sh_0 rfl dX10_frameTone_79 ?_
            refine j_getR fl_RX10_171 sh_20 rfl dX10_frameTone_82 ?_
            refine j_iload dX10_frameTone_85 rfl ?_
            refine j_iload_n dX10_frameTone_87 rfl rfl ?_
            refine j_callVi (mX6_lightAt (kl K) (kD K) (kad K) (kcA K) 21 isSc_21 a4 a3 s10) cw_RX10_181 sh_21 rfl ⟨rfl, rfl, by decide, by decide⟩ rfl rfl (Nat.le_of_ble_eq_true rfl) dX10_frameTone_88 (fun r12 s13 => ?_)
            refine j_iload dX10_frameTone_91 rfl ?_
            refine j_iload_n dX10_frameTone_93 rfl rfl ?_
            refine j_callVi (mX9_printed (kl K) (kD K) (kad K) (kcA K) a1 a3 r12 v11 a2 s13) cw_RX10_145 sh_1 rfl ⟨rfl, rfl, by decide, by decide⟩ rfl rfl (Nat.le_of_ble_eq_true rfl) dX10_frameTone_94 (fun r14 s15 => ?_)
            exact j_iret hq dX10_frameTone_97
          · refine j_bipush (v := (-2)) dX10_frameTone_43 (by decide +kernel) (inr_d rfl) ?_
            exact j_iret hq dX10_frameTone_45
        · refine j_iconst dX10_frameTone_26 (inr_d rfl) ?_
          exact j_iret hq dX10_frameTone_27
abbrev rmX10_strip : Room := { frames := 2, cells := 0, slots := 0, locals := 42 }
theorem dX10_strip_0 : decode cX10_strip 0 = .ok (.iload_n 3, 1) := by decide +kernel
theorem dX10_strip_1 : decode cX10_strip 1 = .ok (.bipush 100, 2) := by decide +kernel
theorem dX10_strip_3 : decode cX10_strip 3 = .ok (.if_icmp .eq 14, 3) := by decide +kernel
theorem dX10_strip_6 : decode cX10_strip 6 = .ok (.iload_n 3, 1) := by decide +kernel
theorem dX10_strip_7 : decode cX10_strip 7 = .ok (.bipush (-10), 2) := by decide +kernel
theorem dX10_strip_9 : decode cX10_strip 9 = .ok (.bipush 10, 2) := by decide +kernel
theorem dX10_strip_11 : decode cX10_strip 11 = .ok (.invokestatic 97, 3) := by decide +kernel
theorem dX10_strip_14 : decode cX10_strip 14 = .ok (.ifCond .eq 7, 3) := by decide +kernel
theorem dX10_strip_17 : decode cX10_strip 17 = .ok (.iconst 1, 1) := by decide +kernel
theorem dX10_strip_18 : decode cX10_strip 18 = .ok (.goto 4, 3) := by decide +kernel
theorem dX10_strip_21 : decode cX10_strip 21 = .ok (.iconst 0, 1) := by decide +kernel
theorem dX10_strip_22 : decode cX10_strip 22 = .ok (.istore 4, 2) := by decide +kernel
theorem dX10_strip_24 : decode cX10_strip 24 = .ok (.iload_n 1, 1) := by decide +kernel
theorem dX10_strip_25 : decode cX10_strip 25 = .ok (.iconst 0, 1) := by decide +kernel
theorem dX10_strip_26 : decode cX10_strip 26 = .ok (.bipush 99, 2) := by decide +kernel
theorem dX10_strip_28 : decode cX10_strip 28 = .ok (.invokestatic 97, 3) := by decide +kernel
theorem dX10_strip_31 : decode cX10_strip 31 = .ok (.ifCond .eq 15, 3) := by decide +kernel
theorem dX10_strip_34 : decode cX10_strip 34 = .ok (.iload_n 2, 1) := by decide +kernel
theorem dX10_strip_35 : decode cX10_strip 35 = .ok (.invokestatic 94, 3) := by decide +kernel
theorem dX10_strip_38 : decode cX10_strip 38 = .ok (.ifCond .eq 8, 3) := by decide +kernel
theorem dX10_strip_41 : decode cX10_strip 41 = .ok (.iload 4, 2) := by decide +kernel
theorem dX10_strip_43 : decode cX10_strip 43 = .ok (.ifCond .ne 5, 3) := by decide +kernel
theorem dX10_strip_46 : decode cX10_strip 46 = .ok (.iconst (-1), 1) := by decide +kernel
theorem dX10_strip_47 : decode cX10_strip 47 = .ok (.ireturn, 1) := by decide +kernel
theorem dX10_strip_48 : decode cX10_strip 48 = .ok (.aload_n 0, 1) := by decide +kernel
theorem dX10_strip_49 : decode cX10_strip 49 = .ok (.getfield 72, 3) := by decide +kernel
theorem dX10_strip_52 : decode cX10_strip 52 = .ok (.iload_n 1, 1) := by decide +kernel
theorem dX10_strip_53 : decode cX10_strip 53 = .ok (.iload_n 2, 1) := by decide +kernel
theorem dX10_strip_54 : decode cX10_strip 54 = .ok (.iload_n 3, 1) := by decide +kernel
theorem dX10_strip_55 : decode cX10_strip 55 = .ok (.invokevirtual 226, 3) := by decide +kernel
theorem dX10_strip_58 : decode cX10_strip 58 = .ok (.ifCond .eq 13, 3) := by decide +kernel
theorem dX10_strip_61 : decode cX10_strip 61 = .ok (.aload_n 0, 1) := by decide +kernel
theorem dX10_strip_62 : decode cX10_strip 62 = .ok (.getfield 72, 3) := by decide +kernel
theorem dX10_strip_65 : decode cX10_strip 65 = .ok (.getfield 229, 3) := by decide +kernel
theorem dX10_strip_68 : decode cX10_strip 68 = .ok (.goto 5, 3) := by decide +kernel
theorem dX10_strip_71 : decode cX10_strip 71 = .ok (.bipush (-3), 2) := by decide +kernel
theorem dX10_strip_73 : decode cX10_strip 73 = .ok (.ireturn, 1) := by decide +kernel
def fX10_strip (a1 : Int) (a2 : Int) (a3 : Int) (s0 : Mem) : Option Res :=
 jn (fun (u1 : Int) (s2 : Mem) =>
 bnd (fX10_isWithin a1 0 99 s2) (fun r3 s4 =>
 (if r3 = 0 then
 some ((-1), s4)
 else
 bnd (fX10_isColour a2 s4) (fun r5 s6 =>
 (if r5 = 0 then
 some ((-1), s6)
 else
 (if u1 ≠ 0 then
 bnd (fX7_add a1 a2 a3 s6) (fun r7 s8 =>
 (if r7 = 0 then
 some ((-3), s8)
 else
 some (s8 83 3, s8)))
 else
 some ((-1), s6))))))) (fun k22 =>
 (if a3 = 100 then
 k22 1 s0
 else
 bnd (fX10_isWithin a3 (-10) 10 s0) (fun r9 s10 =>
 (if r9 = 0 then
 k22 0 s10
 else
 k22 1 s10))))
set_option maxRecDepth 100000 in
set_option maxHeartbeats 4000000 in
theorem mX10_strip (l : Launch) (D : va_G) (ad : Nat → Nat) (cA : Nat → ClassId) (a1 : Int) (a2 : Int) (a3 : Int) (s0 : Mem) : MCi l D ad cA yX10_strip cX10_strip 5 (some .int) rmX10_strip [.inr (.inr 0), .inl a1, .inl a2, .inl a3] s0 (fX10_strip a1 a2 a3 s0) := by
  refine MCi_ofE (own := RX10) (ls := [some (.inr (.inr 0)), some (.inl a1), some (.inl a2), some (.inl a3), none]) 1 (by decide +kernel) rfl rfl (fun _ => Nat.le_of_ble_eq_true rfl) (fun K hq => ?_)
  unfold fX10_strip
  refine j_iload_n dX10_strip_0 rfl rfl ?_
  refine j_bipush (v := 100) dX10_strip_1 (by decide +kernel) (inr_d rfl) ?_
  refine j_jn (fun k22 => ∀ (u1 : Int) (s2 : Mem), J K rmX10_strip cX10_strip RX10 5 22 [some (.inr (.inr 0)), some (.inl a1), some (.inl a2), some (.inl a3), none] [.inl u1] s2 (k22 u1 s2)) (fun u1 s2 => ?_) (fun k22 hk22 => ?_)
  · refine j_istoreE (ls2 := [some (.inr (.inr 0)), some (.inl a1), some (.inl a2), some (.inl a3), some (.inl u1)]) dX10_strip_22 (by decide) rfl rfl ?_
    refine j_iload_n dX10_strip_24 rfl rfl ?_
    refine j_iconst dX10_strip_25 (inr_d rfl) ?_
    refine j_bipush (v := 99) dX10_strip_26 (by decide +kernel) (inr_d rfl) ?_
    refine j_callSi (mX10_isWithin (kl K) (kD K) (kad K) (kcA K) a1 0 99 s2) cw_RX10_97 ⟨rfl, rfl, by decide, by decide⟩ rfl rfl (Nat.le_of_ble_eq_true rfl) dX10_strip_28 (fun r3 s4 => ?_)
    refine j_if_eq (tgt := 46) dX10_strip_31 rfl ?_ ?_
    · refine j_iconst dX10_strip_46 (inr_d rfl) ?_
      exact j_iret hq dX10_strip_47
    · refine j_iload_n dX10_strip_34 rfl rfl ?_
      refine j_callSi (mX10_isColour (kl K) (kD K) (kad K) (kcA K) a2 s4) cw_RX10_94 ⟨rfl, rfl, by decide, by decide⟩ rfl rfl (Nat.le_of_ble_eq_true rfl) dX10_strip_35 (fun r5 s6 => ?_)
      refine j_if_eq (tgt := 46) dX10_strip_38 rfl ?_ ?_
      · refine j_iconst dX10_strip_46 (inr_d rfl) ?_
        exact j_iret hq dX10_strip_47
      · refine j_iload dX10_strip_41 rfl ?_
        refine j_if_ne (tgt := 48) dX10_strip_43 rfl ?_ ?_
        · refine j_aload_n dX10_strip_48 rfl rfl ?_
          refine j_getR fl_RX10_72 sh_0 rfl dX10_strip_49 ?_
          refine j_iload_n dX10_strip_52 rfl rfl ?_
          refine j_iload_n dX10_strip_53 rfl rfl ?_
          refine j_iload_n dX10_strip_54 rfl rfl ?_
          refine j_callVi (mX7_add (kl K) (kD K) (kad K) (kcA K) a1 a2 a3 s6) cw_RX10_226 sh_83 rfl ⟨rfl, rfl, by decide, by decide⟩ rfl rfl (Nat.le_of_ble_eq_true rfl) dX10_strip_55 (fun r7 s8 => ?_)
          refine j_if_eq (tgt := 71) dX10_strip_58 rfl ?_ ?_
          · refine j_bipush (v := (-3)) dX10_strip_71 (by decide +kernel) (inr_d rfl) ?_
            exact j_iret hq dX10_strip_73
          · refine j_aload_n dX10_strip_61 rfl rfl ?_
            refine j_getR fl_RX10_72 sh_0 rfl dX10_strip_62 ?_
            refine j_getI fl_RX10_229 sh_83 rfl dX10_strip_65 ?_
            refine j_goto (tgt := 73) dX10_strip_68 rfl ?_
            exact j_iret hq dX10_strip_73
        · refine j_iconst dX10_strip_46 (inr_d rfl) ?_
          exact j_iret hq dX10_strip_47
  refine j_icmp_eq (tgt := 17) dX10_strip_3 rfl ?_ ?_
  · refine j_iconst dX10_strip_17 (inr_d rfl) ?_
    refine j_goto (tgt := 22) dX10_strip_18 rfl ?_
    exact j_msk [true, true, true, true, false] (hk22 _ _)
  · refine j_iload_n dX10_strip_6 rfl rfl ?_
    refine j_bipush (v := (-10)) dX10_strip_7 (by decide +kernel) (inr_d rfl) ?_
    refine j_bipush (v := 10) dX10_strip_9 (by decide +kernel) (inr_d rfl) ?_
    refine j_callSi (mX10_isWithin (kl K) (kD K) (kad K) (kcA K) a3 (-10) 10 s0) cw_RX10_97 ⟨rfl, rfl, by decide, by decide⟩ rfl rfl (Nat.le_of_ble_eq_true rfl) dX10_strip_11 (fun r9 s10 => ?_)
    refine j_if_eq (tgt := 21) dX10_strip_14 rfl ?_ ?_
    · refine j_iconst dX10_strip_21 (inr_d rfl) ?_
      exact j_msk [true, true, true, true, false] (hk22 _ _)
    · refine j_iconst dX10_strip_17 (inr_d rfl) ?_
      refine j_goto (tgt := 22) dX10_strip_18 rfl ?_
      exact j_msk [true, true, true, true, false] (hk22 _ _)
abbrev rmX10_noStrips : Room := { frames := 0, cells := 0, slots := 0, locals := 0 }
theorem dX10_noStrips_0 : decode cX10_noStrips 0 = .ok (.aload_n 0, 1) := by decide +kernel
theorem dX10_noStrips_1 : decode cX10_noStrips 1 = .ok (.getfield 72, 3) := by decide +kernel
theorem dX10_noStrips_4 : decode cX10_noStrips 4 = .ok (.getfield 229, 3) := by decide +kernel
theorem dX10_noStrips_7 : decode cX10_noStrips 7 = .ok (.istore_n 1, 1) := by decide +kernel
theorem dX10_noStrips_8 : decode cX10_noStrips 8 = .ok (.aload_n 0, 1) := by decide +kernel
theorem dX10_noStrips_9 : decode cX10_noStrips 9 = .ok (.getfield 72, 3) := by decide +kernel
theorem dX10_noStrips_12 : decode cX10_noStrips 12 = .ok (.iconst 0, 1) := by decide +kernel
theorem dX10_noStrips_13 : decode cX10_noStrips 13 = .ok (.putfield 229, 3) := by decide +kernel
theorem dX10_noStrips_16 : decode cX10_noStrips 16 = .ok (.iload_n 1, 1) := by decide +kernel
theorem dX10_noStrips_17 : decode cX10_noStrips 17 = .ok (.ireturn, 1) := by decide +kernel
def fX10_noStrips (s0 : Mem) : Option Res :=
 lt (s0 83 3) (fun v1 =>
 lt (up s0 83 3 0) (fun s2 =>
 some (v1, s2)))
set_option maxRecDepth 100000 in
set_option maxHeartbeats 4000000 in
theorem mX10_noStrips (l : Launch) (D : va_G) (ad : Nat → Nat) (cA : Nat → ClassId) (s0 : Mem) : MCi l D ad cA yX10_noStrips cX10_noStrips 2 (some .int) rmX10_noStrips [.inr (.inr 0)] s0 (fX10_noStrips s0) := by
  refine MCi_ofE (own := RX10) (ls := [some (.inr (.inr 0)), none]) 1 (by decide +kernel) rfl rfl (fun _ => Nat.le_of_ble_eq_true rfl) (fun K hq => ?_)
  unfold fX10_noStrips
  refine j_aload_n dX10_noStrips_0 rfl rfl ?_
  refine j_getR fl_RX10_72 sh_0 rfl dX10_noStrips_1 ?_
  refine j_getI fl_RX10_229 sh_83 rfl dX10_noStrips_4 ?_
  refine j_ltv (fun v1 => ?_)
  refine j_istore_nE (ls2 := [some (.inr (.inr 0)), some (.inl v1)]) dX10_noStrips_7 rfl (by decide) rfl rfl ?_
  refine j_aload_n dX10_noStrips_8 rfl rfl ?_
  refine j_getR fl_RX10_72 sh_0 rfl dX10_noStrips_9 ?_
  refine j_iconst dX10_noStrips_12 (inr_d rfl) ?_
  refine j_putI fp_RX10_229 sh_83 rfl dX10_noStrips_13 (fun s2 => ?_)
  refine j_iload_n dX10_noStrips_16 rfl rfl ?_
  exact j_iret hq dX10_noStrips_17
abbrev rmX10_drift : Room := { frames := 3, cells := 0, slots := 0, locals := 70 }
theorem dX10_drift_0 : decode cX10_drift 0 = .ok (.iload_n 1, 1) := by decide +kernel
theorem dX10_drift_1 : decode cX10_drift 1 = .ok (.iconst (-1), 1) := by decide +kernel
theorem dX10_drift_2 : decode cX10_drift 2 = .ok (.if_icmp .ge 5, 3) := by decide +kernel
theorem dX10_drift_5 : decode cX10_drift 5 = .ok (.iconst (-1), 1) := by decide +kernel
theorem dX10_drift_6 : decode cX10_drift 6 = .ok (.ireturn, 1) := by decide +kernel
theorem dX10_drift_7 : decode cX10_drift 7 = .ok (.aload_n 0, 1) := by decide +kernel
theorem dX10_drift_8 : decode cX10_drift 8 = .ok (.getfield 72, 3) := by decide +kernel
theorem dX10_drift_11 : decode cX10_drift 11 = .ok (.aload_n 0, 1) := by decide +kernel
theorem dX10_drift_12 : decode cX10_drift 12 = .ok (.getfield 25, 3) := by decide +kernel
theorem dX10_drift_15 : decode cX10_drift 15 = .ok (.iconst 2, 1) := by decide +kernel
theorem dX10_drift_16 : decode cX10_drift 16 = .ok (.iaload, 1) := by decide +kernel
theorem dX10_drift_17 : decode cX10_drift 17 = .ok (.invokevirtual 232, 3) := by decide +kernel
theorem dX10_drift_20 : decode cX10_drift 20 = .ok (.iload_n 1, 1) := by decide +kernel
theorem dX10_drift_21 : decode cX10_drift 21 = .ok (.iconst (-1), 1) := by decide +kernel
theorem dX10_drift_22 : decode cX10_drift 22 = .ok (.if_icmp .ne 13, 3) := by decide +kernel
theorem dX10_drift_25 : decode cX10_drift 25 = .ok (.aload_n 0, 1) := by decide +kernel
theorem dX10_drift_26 : decode cX10_drift 26 = .ok (.getfield 72, 3) := by decide +kernel
theorem dX10_drift_29 : decode cX10_drift 29 = .ok (.invokevirtual 236, 3) := by decide +kernel
theorem dX10_drift_32 : decode cX10_drift 32 = .ok (.goto 11, 3) := by decide +kernel
theorem dX10_drift_35 : decode cX10_drift 35 = .ok (.aload_n 0, 1) := by decide +kernel
theorem dX10_drift_36 : decode cX10_drift 36 = .ok (.getfield 72, 3) := by decide +kernel
theorem dX10_drift_39 : decode cX10_drift 39 = .ok (.iload_n 1, 1) := by decide +kernel
theorem dX10_drift_40 : decode cX10_drift 40 = .ok (.invokevirtual 239, 3) := by decide +kernel
theorem dX10_drift_43 : decode cX10_drift 43 = .ok (.ireturn, 1) := by decide +kernel
def fX10_drift (a1 : Int) (s0 : Mem) : Option Res :=
 (if (-1) ≤ a1 then
 rd (s0 7) 2 4 (fun v1 =>
 bnd (fX7_weigh v1 s0) (fun _ s3 =>
 (if a1 ≠ (-1) then
 bnd (fX7_driftNumber a1 s3) (fun r4 s5 =>
 some (r4, s5))
 else
 bnd (fX7_countDrifts s3) (fun r6 s7 =>
 some (r6, s7)))))
 else
 some ((-1), s0))
set_option maxRecDepth 100000 in
set_option maxHeartbeats 4000000 in
theorem mX10_drift (l : Launch) (D : va_G) (ad : Nat → Nat) (cA : Nat → ClassId) (a1 : Int) (s0 : Mem) : MCi l D ad cA yX10_drift cX10_drift 2 (some .int) rmX10_drift [.inr (.inr 0), .inl a1] s0 (fX10_drift a1 s0) := by
  refine MCi_ofE (own := RX10) (ls := [some (.inr (.inr 0)), some (.inl a1)]) 0 (by decide +kernel) rfl rfl (fun _ => Nat.le_of_ble_eq_true rfl) (fun K hq => ?_)
  unfold fX10_drift
  refine j_iload_n dX10_drift_0 rfl rfl ?_
  refine j_iconst dX10_drift_1 (inr_d rfl) ?_
  refine j_icmp_ge (tgt := 7) dX10_drift_2 rfl ?_ ?_
  · refine j_aload_n dX10_drift_7 rfl rfl ?_
    refine j_getR fl_RX10_72 sh_0 rfl dX10_drift_8 ?_
    refine j_aload_n dX10_drift_11 rfl rfl ?_
    refine j_getR fl_RX10_25 sh_0 rfl dX10_drift_12 ?_
    refine j_iconst dX10_drift_15 (inr_d rfl) ?_
    refine j_iald sh_7 dX10_drift_16 (fun v1 => ?_)
    refine j_callVv (mX7_weigh (kl K) (kD K) (kad K) (kcA K) v1 s0) cw_RX10_232 sh_83 rfl ⟨rfl, rfl, by decide, by decide⟩ rfl rfl (Nat.le_of_ble_eq_true rfl) dX10_drift_17 (fun _ s3 => ?_)
    refine j_iload_n dX10_drift_20 rfl rfl ?_
    refine j_iconst dX10_drift_21 (inr_d rfl) ?_
    refine j_icmp_ne (tgt := 35) dX10_drift_22 rfl ?_ ?_
    · refine j_aload_n dX10_drift_35 rfl rfl ?_
      refine j_getR fl_RX10_72 sh_0 rfl dX10_drift_36 ?_
      refine j_iload_n dX10_drift_39 rfl rfl ?_
      refine j_callVi (mX7_driftNumber (kl K) (kD K) (kad K) (kcA K) a1 s3) cw_RX10_239 sh_83 rfl ⟨rfl, rfl, by decide, by decide⟩ rfl rfl (Nat.le_of_ble_eq_true rfl) dX10_drift_40 (fun r4 s5 => ?_)
      exact j_iret hq dX10_drift_43
    · refine j_aload_n dX10_drift_25 rfl rfl ?_
      refine j_getR fl_RX10_72 sh_0 rfl dX10_drift_26 ?_
      refine j_callVi (mX7_countDrifts (kl K) (kD K) (kad K) (kcA K) s3) cw_RX10_236 sh_83 rfl ⟨rfl, rfl, by decide, by decide⟩ rfl rfl (Nat.le_of_ble_eq_true rfl) dX10_drift_29 (fun r6 s7 => ?_)
      refine j_goto (tgt := 43) dX10_drift_32 rfl ?_
      exact j_iret hq dX10_drift_43
  · refine j_iconst dX10_drift_5 (inr_d rfl) ?_
    exact j_iret hq dX10_drift_6
abbrev rmX10_reel : Room := { frames := 2, cells := 0, slots := 0, locals := 42 }
theorem dX10_reel_0 : decode cX10_reel 0 = .ok (.iload_n 1, 1) := by decide +kernel
theorem dX10_reel_1 : decode cX10_reel 1 = .ok (.invokestatic 242, 3) := by decide +kernel
theorem dX10_reel_4 : decode cX10_reel 4 = .ok (.ifCond .eq 24, 3) := by decide +kernel
theorem dX10_reel_7 : decode cX10_reel 7 = .ok (.iload_n 2, 1) := by decide +kernel
theorem dX10_reel_8 : decode cX10_reel 8 = .ok (.iconst 0, 1) := by decide +kernel
theorem dX10_reel_9 : decode cX10_reel 9 = .ok (.ldc 245, 2) := by decide +kernel
theorem dX10_reel_11 : decode cX10_reel 11 = .ok (.invokestatic 97, 3) := by decide +kernel
theorem dX10_reel_14 : decode cX10_reel 14 = .ok (.ifCond .eq 14, 3) := by decide +kernel
theorem dX10_reel_17 : decode cX10_reel 17 = .ok (.iload_n 3, 1) := by decide +kernel
theorem dX10_reel_18 : decode cX10_reel 18 = .ok (.iconst 1, 1) := by decide +kernel
theorem dX10_reel_19 : decode cX10_reel 19 = .ok (.sipush 2000, 3) := by decide +kernel
theorem dX10_reel_22 : decode cX10_reel 22 = .ok (.invokestatic 97, 3) := by decide +kernel
theorem dX10_reel_25 : decode cX10_reel 25 = .ok (.ifCond .ne 5, 3) := by decide +kernel
theorem dX10_reel_28 : decode cX10_reel 28 = .ok (.iconst (-1), 1) := by decide +kernel
theorem dX10_reel_29 : decode cX10_reel 29 = .ok (.ireturn, 1) := by decide +kernel
theorem dX10_reel_30 : decode cX10_reel 30 = .ok (.iload_n 2, 1) := by decide +kernel
theorem dX10_reel_31 : decode cX10_reel 31 = .ok (.iload_n 3, 1) := by decide +kernel
theorem dX10_reel_32 : decode cX10_reel 32 = .ok (.iadd, 1) := by decide +kernel
theorem dX10_reel_33 : decode cX10_reel 33 = .ok (.iconst 1, 1) := by decide +kernel
theorem dX10_reel_34 : decode cX10_reel 34 = .ok (.isub, 1) := by decide +kernel
theorem dX10_reel_35 : decode cX10_reel 35 = .ok (.ldc 245, 2) := by decide +kernel
theorem dX10_reel_37 : decode cX10_reel 37 = .ok (.if_icmp .le 5, 3) := by decide +kernel
theorem dX10_reel_40 : decode cX10_reel 40 = .ok (.iconst (-1), 1) := by decide +kernel
theorem dX10_reel_41 : decode cX10_reel 41 = .ok (.ireturn, 1) := by decide +kernel
theorem dX10_reel_42 : decode cX10_reel 42 = .ok (.aload_n 0, 1) := by decide +kernel
theorem dX10_reel_43 : decode cX10_reel 43 = .ok (.getfield 45, 3) := by decide +kernel
theorem dX10_reel_46 : decode cX10_reel 46 = .ok (.getfield 248, 3) := by decide +kernel
theorem dX10_reel_49 : decode cX10_reel 49 = .ok (.iload_n 1, 1) := by decide +kernel
theorem dX10_reel_50 : decode cX10_reel 50 = .ok (.iload_n 2, 1) := by decide +kernel
theorem dX10_reel_51 : decode cX10_reel 51 = .ok (.iload_n 3, 1) := by decide +kernel
theorem dX10_reel_52 : decode cX10_reel 52 = .ok (.invokevirtual 252, 3) := by decide +kernel
theorem dX10_reel_55 : decode cX10_reel 55 = .ok (.iconst 0, 1) := by decide +kernel
theorem dX10_reel_56 : decode cX10_reel 56 = .ok (.ireturn, 1) := by decide +kernel
def fX10_reel (a1 : Int) (a2 : Int) (a3 : Int) (s0 : Mem) : Option Res :=
 bnd (fX10_isReel a1 s0) (fun r1 s2 =>
 (if r1 = 0 then
 some ((-1), s2)
 else
 bnd (fX10_isWithin a2 0 100000 s2) (fun r3 s4 =>
 (if r3 = 0 then
 some ((-1), s4)
 else
 bnd (fX10_isWithin a3 1 2000 s4) (fun r5 s6 =>
 (if r5 ≠ 0 then
 (if wr ((wr (a2 + a3)) - 1) ≤ 100000 then
 bnd (fX5_tell 34 a1 a2 a3 s6) (fun _ s8 =>
 some (0, s8))
 else
 some ((-1), s6))
 else
 some ((-1), s6)))))))
set_option maxRecDepth 100000 in
set_option maxHeartbeats 4000000 in
theorem mX10_reel (l : Launch) (D : va_G) (ad : Nat → Nat) (cA : Nat → ClassId) (a1 : Int) (a2 : Int) (a3 : Int) (s0 : Mem) : MCi l D ad cA yX10_reel cX10_reel 4 (some .int) rmX10_reel [.inr (.inr 0), .inl a1, .inl a2, .inl a3] s0 (fX10_reel a1 a2 a3 s0) := by
  refine MCi_ofE (own := RX10) (ls := [some (.inr (.inr 0)), some (.inl a1), some (.inl a2), some (.inl a3)]) 0 (by decide +kernel) rfl rfl (fun _ => Nat.le_of_ble_eq_true rfl) (fun K hq => ?_)
  unfold fX10_reel
  refine j_iload_n dX10_reel_0 rfl rfl ?_
  refine j_callSi (mX10_isReel (kl K) (kD K) (kad K) (kcA K) a1 s0) cw_RX10_242 ⟨rfl, rfl, by decide, by decide⟩ rfl rfl (Nat.le_of_ble_eq_true rfl) dX10_reel_1 (fun r1 s2 => ?_)
  refine j_if_eq (tgt := 28) dX10_reel_4 rfl ?_ ?_
  · refine j_iconst dX10_reel_28 (inr_d rfl) ?_
    exact j_iret hq dX10_reel_29
  · refine j_iload_n dX10_reel_7 rfl rfl ?_
    refine j_iconst dX10_reel_8 (inr_d rfl) ?_
    refine j_ldc (v := 100000) dX10_reel_9 cst_RX10_245 (inr_d rfl) ?_
    refine j_callSi (mX10_isWithin (kl K) (kD K) (kad K) (kcA K) a2 0 100000 s2) cw_RX10_97 ⟨rfl, rfl, by decide, by decide⟩ rfl rfl (Nat.le_of_ble_eq_true rfl) dX10_reel_11 (fun r3 s4 => ?_)
    refine j_if_eq (tgt := 28) dX10_reel_14 rfl ?_ ?_
    · refine j_iconst dX10_reel_28 (inr_d rfl) ?_
      exact j_iret hq dX10_reel_29
    · refine j_iload_n dX10_reel_17 rfl rfl ?_
      refine j_iconst dX10_reel_18 (inr_d rfl) ?_
      refine j_sipush (v := 2000) dX10_reel_19 (by decide +kernel) (inr_d rfl) ?_
      refine j_callSi (mX10_isWithin (kl K) (kD K) (kad K) (kcA K) a3 1 2000 s4) cw_RX10_97 ⟨rfl, rfl, by decide, by decide⟩ rfl rfl (Nat.le_of_ble_eq_true rfl) dX10_reel_22 (fun r5 s6 => ?_)
      refine j_if_ne (tgt := 30) dX10_reel_25 rfl ?_ ?_
      · refine j_iload_n dX10_reel_30 rfl rfl ?_
        refine j_iload_n dX10_reel_31 rfl rfl ?_
        refine j_iadd dX10_reel_32 ?_
        refine j_iconst dX10_reel_33 (inr_d rfl) ?_
        refine j_isub dX10_reel_34 ?_
        refine j_ldc (v := 100000) dX10_reel_35 cst_RX10_245 (inr_d rfl) ?_
        refine j_icmp_le (tgt := 42) dX10_reel_37 rfl ?_ ?_
        · refine j_aload_n dX10_reel_42 rfl rfl ?_
          refine j_getR fl_RX10_45 sh_0 rfl dX10_reel_43 ?_
          refine j_getR fl_RX10_248 sh_20 rfl dX10_reel_46 ?_
          refine j_iload_n dX10_reel_49 rfl rfl ?_
          refine j_iload_n dX10_reel_50 rfl rfl ?_
          refine j_iload_n dX10_reel_51 rfl rfl ?_
          refine j_callVv (mX5_tell (kl K) (kD K) (kad K) (kcA K) 34 isRe_34 a1 a2 a3 s6) cw_RX10_252 sh_34 rfl ⟨rfl, rfl, by decide, by decide⟩ rfl rfl (Nat.le_of_ble_eq_true rfl) dX10_reel_52 (fun _ s8 => ?_)
          refine j_iconst dX10_reel_55 (inr_d rfl) ?_
          exact j_iret hq dX10_reel_56
        · refine j_iconst dX10_reel_40 (inr_d rfl) ?_
          exact j_iret hq dX10_reel_41
      · refine j_iconst dX10_reel_28 (inr_d rfl) ?_
        exact j_iret hq dX10_reel_29
abbrev rmX10_lose : Room := { frames := 2, cells := 0, slots := 0, locals := 42 }
theorem dX10_lose_0 : decode cX10_lose 0 = .ok (.iload_n 1, 1) := by decide +kernel
theorem dX10_lose_1 : decode cX10_lose 1 = .ok (.invokestatic 242, 3) := by decide +kernel
theorem dX10_lose_4 : decode cX10_lose 4 = .ok (.ifCond .ne 5, 3) := by decide +kernel
theorem dX10_lose_7 : decode cX10_lose 7 = .ok (.iconst (-1), 1) := by decide +kernel
theorem dX10_lose_8 : decode cX10_lose 8 = .ok (.ireturn, 1) := by decide +kernel
theorem dX10_lose_9 : decode cX10_lose 9 = .ok (.aload_n 0, 1) := by decide +kernel
theorem dX10_lose_10 : decode cX10_lose 10 = .ok (.getfield 45, 3) := by decide +kernel
theorem dX10_lose_13 : decode cX10_lose 13 = .ok (.getfield 248, 3) := by decide +kernel
theorem dX10_lose_16 : decode cX10_lose 16 = .ok (.iload_n 1, 1) := by decide +kernel
theorem dX10_lose_17 : decode cX10_lose 17 = .ok (.invokevirtual 255, 3) := by decide +kernel
theorem dX10_lose_20 : decode cX10_lose 20 = .ok (.ifCond .ne 6, 3) := by decide +kernel
theorem dX10_lose_23 : decode cX10_lose 23 = .ok (.bipush (-2), 2) := by decide +kernel
theorem dX10_lose_25 : decode cX10_lose 25 = .ok (.ireturn, 1) := by decide +kernel
theorem dX10_lose_26 : decode cX10_lose 26 = .ok (.aload_n 0, 1) := by decide +kernel
theorem dX10_lose_27 : decode cX10_lose 27 = .ok (.getfield 45, 3) := by decide +kernel
theorem dX10_lose_30 : decode cX10_lose 30 = .ok (.getfield 248, 3) := by decide +kernel
theorem dX10_lose_33 : decode cX10_lose 33 = .ok (.getfield 258, 3) := by decide +kernel
theorem dX10_lose_36 : decode cX10_lose 36 = .ok (.iload_n 1, 1) := by decide +kernel
theorem dX10_lose_37 : decode cX10_lose 37 = .ok (.baload, 1) := by decide +kernel
theorem dX10_lose_38 : decode cX10_lose 38 = .ok (.ifCond .eq 7, 3) := by decide +kernel
theorem dX10_lose_41 : decode cX10_lose 41 = .ok (.iconst 1, 1) := by decide +kernel
theorem dX10_lose_42 : decode cX10_lose 42 = .ok (.goto 4, 3) := by decide +kernel
theorem dX10_lose_45 : decode cX10_lose 45 = .ok (.iconst 0, 1) := by decide +kernel
theorem dX10_lose_46 : decode cX10_lose 46 = .ok (.istore_n 3, 1) := by decide +kernel
theorem dX10_lose_47 : decode cX10_lose 47 = .ok (.aload_n 0, 1) := by decide +kernel
theorem dX10_lose_48 : decode cX10_lose 48 = .ok (.getfield 45, 3) := by decide +kernel
theorem dX10_lose_51 : decode cX10_lose 51 = .ok (.getfield 248, 3) := by decide +kernel
theorem dX10_lose_54 : decode cX10_lose 54 = .ok (.getfield 258, 3) := by decide +kernel
theorem dX10_lose_57 : decode cX10_lose 57 = .ok (.iload_n 1, 1) := by decide +kernel
theorem dX10_lose_58 : decode cX10_lose 58 = .ok (.iload_n 2, 1) := by decide +kernel
theorem dX10_lose_59 : decode cX10_lose 59 = .ok (.bastore, 1) := by decide +kernel
theorem dX10_lose_60 : decode cX10_lose 60 = .ok (.iload_n 3, 1) := by decide +kernel
theorem dX10_lose_61 : decode cX10_lose 61 = .ok (.ireturn, 1) := by decide +kernel
def fX10_lose (a1 : Int) (a2 : Int) (s0 : Mem) : Option Res :=
 bnd (fX10_isReel a1 s0) (fun r1 s2 =>
 (if r1 ≠ 0 then
 bnd (fX5_isTold 34 a1 s2) (fun r3 s4 =>
 (if r3 ≠ 0 then
 rd (s4 37) a1 8 (fun v5 =>
 jn (fun (u6 : Int) (s7 : Mem) =>
 zp a2 (ST s7 37 a1 8 a2 (fun s8 =>
 some (u6, s8)))) (fun k46 =>
 (if v5 = 0 then
 k46 0 s4
 else
 k46 1 s4)))
 else
 some ((-2), s4)))
 else
 some ((-1), s2)))
set_option maxRecDepth 100000 in
set_option maxHeartbeats 4000000 in
theorem mX10_lose (l : Launch) (D : va_G) (ad : Nat → Nat) (cA : Nat → ClassId) (a1 : Int) (a2 : Int) (s0 : Mem) : MCi l D ad cA yX10_lose cX10_lose 4 (some .int) rmX10_lose [.inr (.inr 0), .inl a1, .inl a2] s0 (fX10_lose a1 a2 s0) := by
  refine MCi_ofE (own := RX10) (ls := [some (.inr (.inr 0)), some (.inl a1), some (.inl a2), none]) 1 (by decide +kernel) rfl rfl (fun _ => Nat.le_of_ble_eq_true rfl) (fun K hq => ?_)
  unfold fX10_lose
  refine j_iload_n dX10_lose_0 rfl rfl ?_
  refine j_callSi (mX10_isReel (kl K) (kD K) (kad K) (kcA K) a1 s0) cw_RX10_242 ⟨rfl, rfl, by decide, by decide⟩ rfl rfl (Nat.le_of_ble_eq_true rfl) dX10_lose_1 (fun r1 s2 => ?_)
  refine j_if_ne (tgt := 9) dX10_lose_4 rfl ?_ ?_
  · refine j_aload_n dX10_lose_9 rfl rfl ?_
    refine j_getR fl_RX10_45 sh_0 rfl dX10_lose_10 ?_
    refine j_getR fl_RX10_248 sh_20 rfl dX10_lose_13 ?_
    refine j_iload_n dX10_lose_16 rfl rfl ?_
    refine j_callVi (mX5_isTold (kl K) (kD K) (kad K) (kcA K) 34 isRe_34 a1 s2) cw_RX10_255 sh_34 rfl ⟨rfl, rfl, by decide, by decide⟩ rfl rfl (Nat.le_of_ble_eq_true rfl) dX10_lose_17 (fun r3 s4 => ?_)
    refine j_if_ne (tgt := 26) dX10_lose_20 rfl ?_ ?_
    · refine j_aload_n dX10_lose_26 rfl rfl ?_
      refine j_getR fl_RX10_45 sh_0 rfl dX10_lose_27 ?_
      refine j_getR fl_RX10_248 sh_20 rfl dX10_lose_30 ?_
      refine j_getR fl_RX10_258 sh_34 rfl dX10_lose_33 ?_
      refine j_iload_n dX10_lose_36 rfl rfl ?_
      refine j_zald sh_37 dX10_lose_37 (fun v5 => ?_)
      refine j_jn (fun k46 => ∀ (u6 : Int) (s7 : Mem), J K rmX10_lose cX10_lose RX10 4 46 [some (.inr (.inr 0)), some (.inl a1), some (.inl a2), none] [.inl u6] s7 (k46 u6 s7)) (fun u6 s7 => ?_) (fun k46 hk46 => ?_)
      · refine j_istore_nE (ls2 := [some (.inr (.inr 0)), some (.inl a1), some (.inl a2), some (.inl u6)]) dX10_lose_46 rfl (by decide) rfl rfl ?_
        refine j_aload_n dX10_lose_47 rfl rfl ?_
        refine j_getR fl_RX10_45 sh_0 rfl dX10_lose_48 ?_
        refine j_getR fl_RX10_248 sh_20 rfl dX10_lose_51 ?_
        refine j_getR fl_RX10_258 sh_34 rfl dX10_lose_54 ?_
        refine j_iload_n dX10_lose_57 rfl rfl ?_
        refine j_iload_n dX10_lose_58 rfl rfl ?_
        refine j_zast sh_37 dX10_lose_59 (fun s8 => ?_)
        refine j_iload_n dX10_lose_60 rfl rfl ?_
        exact j_iret hq dX10_lose_61
      refine j_if_eq (tgt := 45) dX10_lose_38 rfl ?_ ?_
      · refine j_iconst dX10_lose_45 (inr_d rfl) ?_
        exact j_msk [true, true, true, false] (hk46 _ _)
      · refine j_iconst dX10_lose_41 (inr_d rfl) ?_
        refine j_goto (tgt := 46) dX10_lose_42 rfl ?_
        exact j_msk [true, true, true, false] (hk46 _ _)
    · refine j_bipush (v := (-2)) dX10_lose_23 (by decide +kernel) (inr_d rfl) ?_
      exact j_iret hq dX10_lose_25
  · refine j_iconst dX10_lose_7 (inr_d rfl) ?_
    exact j_iret hq dX10_lose_8
abbrev rmX10_from : Room := { frames := 2, cells := 0, slots := 0, locals := 42 }
theorem dX10_from_0 : decode cX10_from 0 = .ok (.iload_n 1, 1) := by decide +kernel
theorem dX10_from_1 : decode cX10_from 1 = .ok (.invokestatic 207, 3) := by decide +kernel
theorem dX10_from_4 : decode cX10_from 4 = .ok (.ifCond .eq 23, 3) := by decide +kernel
theorem dX10_from_7 : decode cX10_from 7 = .ok (.iload_n 2, 1) := by decide +kernel
theorem dX10_from_8 : decode cX10_from 8 = .ok (.iconst (-1), 1) := by decide +kernel
theorem dX10_from_9 : decode cX10_from 9 = .ok (.bipush 7, 2) := by decide +kernel
theorem dX10_from_11 : decode cX10_from 11 = .ok (.invokestatic 97, 3) := by decide +kernel
theorem dX10_from_14 : decode cX10_from 14 = .ok (.ifCond .eq 13, 3) := by decide +kernel
theorem dX10_from_17 : decode cX10_from 17 = .ok (.iload_n 3, 1) := by decide +kernel
theorem dX10_from_18 : decode cX10_from 18 = .ok (.iconst 0, 1) := by decide +kernel
theorem dX10_from_19 : decode cX10_from 19 = .ok (.ldc 245, 2) := by decide +kernel
theorem dX10_from_21 : decode cX10_from 21 = .ok (.invokestatic 97, 3) := by decide +kernel
theorem dX10_from_24 : decode cX10_from 24 = .ok (.ifCond .ne 5, 3) := by decide +kernel
theorem dX10_from_27 : decode cX10_from 27 = .ok (.iconst (-1), 1) := by decide +kernel
theorem dX10_from_28 : decode cX10_from 28 = .ok (.ireturn, 1) := by decide +kernel
theorem dX10_from_29 : decode cX10_from 29 = .ok (.iload_n 2, 1) := by decide +kernel
theorem dX10_from_30 : decode cX10_from 30 = .ok (.iconst (-1), 1) := by decide +kernel
theorem dX10_from_31 : decode cX10_from 31 = .ok (.if_icmp .eq 20, 3) := by decide +kernel
theorem dX10_from_34 : decode cX10_from 34 = .ok (.aload_n 0, 1) := by decide +kernel
theorem dX10_from_35 : decode cX10_from 35 = .ok (.getfield 45, 3) := by decide +kernel
theorem dX10_from_38 : decode cX10_from 38 = .ok (.getfield 248, 3) := by decide +kernel
theorem dX10_from_41 : decode cX10_from 41 = .ok (.iload_n 2, 1) := by decide +kernel
theorem dX10_from_42 : decode cX10_from 42 = .ok (.invokevirtual 255, 3) := by decide +kernel
theorem dX10_from_45 : decode cX10_from 45 = .ok (.ifCond .ne 6, 3) := by decide +kernel
theorem dX10_from_48 : decode cX10_from 48 = .ok (.bipush (-2), 2) := by decide +kernel
theorem dX10_from_50 : decode cX10_from 50 = .ok (.ireturn, 1) := by decide +kernel
theorem dX10_from_51 : decode cX10_from 51 = .ok (.aload_n 0, 1) := by decide +kernel
theorem dX10_from_52 : decode cX10_from 52 = .ok (.getfield 45, 3) := by decide +kernel
theorem dX10_from_55 : decode cX10_from 55 = .ok (.getfield 262, 3) := by decide +kernel
theorem dX10_from_58 : decode cX10_from 58 = .ok (.iload_n 1, 1) := by decide +kernel
theorem dX10_from_59 : decode cX10_from 59 = .ok (.iload_n 2, 1) := by decide +kernel
theorem dX10_from_60 : decode cX10_from 60 = .ok (.iastore, 1) := by decide +kernel
theorem dX10_from_61 : decode cX10_from 61 = .ok (.aload_n 0, 1) := by decide +kernel
theorem dX10_from_62 : decode cX10_from 62 = .ok (.getfield 45, 3) := by decide +kernel
theorem dX10_from_65 : decode cX10_from 65 = .ok (.getfield 265, 3) := by decide +kernel
theorem dX10_from_68 : decode cX10_from 68 = .ok (.iload_n 1, 1) := by decide +kernel
theorem dX10_from_69 : decode cX10_from 69 = .ok (.iload_n 3, 1) := by decide +kernel
theorem dX10_from_70 : decode cX10_from 70 = .ok (.iastore, 1) := by decide +kernel
theorem dX10_from_71 : decode cX10_from 71 = .ok (.iconst 0, 1) := by decide +kernel
theorem dX10_from_72 : decode cX10_from 72 = .ok (.ireturn, 1) := by decide +kernel
def fX10_from (a1 : Int) (a2 : Int) (a3 : Int) (s0 : Mem) : Option Res :=
 bnd (fX10_isShot a1 s0) (fun r1 s2 =>
 (if r1 = 0 then
 some ((-1), s2)
 else
 bnd (fX10_isWithin a2 (-1) 7 s2) (fun r3 s4 =>
 (if r3 = 0 then
 some ((-1), s4)
 else
 bnd (fX10_isWithin a3 0 100000 s4) (fun r5 s6 =>
 (if r5 ≠ 0 then
 jn (fun (s7 : Mem) =>
 ST s7 32 a1 16 a2 (fun s8 =>
 ST s8 33 a1 16 a3 (fun s9 =>
 some (0, s9)))) (fun k51 =>
 (if a2 = (-1) then
 k51 s6
 else
 bnd (fX5_isTold 34 a2 s6) (fun r10 s11 =>
 (if r10 ≠ 0 then
 k51 s11
 else
 some ((-2), s11)))))
 else
 some ((-1), s6)))))))
set_option maxRecDepth 100000 in
set_option maxHeartbeats 4000000 in
theorem mX10_from (l : Launch) (D : va_G) (ad : Nat → Nat) (cA : Nat → ClassId) (a1 : Int) (a2 : Int) (a3 : Int) (s0 : Mem) : MCi l D ad cA yX10_from cX10_from 4 (some .int) rmX10_from [.inr (.inr 0), .inl a1, .inl a2, .inl a3] s0 (fX10_from a1 a2 a3 s0) := by
  refine MCi_ofE (own := RX10) (ls := [some (.inr (.inr 0)), some (.inl a1), some (.inl a2), some (.inl a3)]) 0 (by decide +kernel) rfl rfl (fun _ => Nat.le_of_ble_eq_true rfl) (fun K hq => ?_)
  unfold fX10_from
  refine j_iload_n dX10_from_0 rfl rfl ?_
  refine j_callSi (mX10_isShot (kl K) (kD K) (kad K) (kcA K) a1 s0) cw_RX10_207 ⟨rfl, rfl, by decide, by decide⟩ rfl rfl (Nat.le_of_ble_eq_true rfl) dX10_from_1 (fun r1 s2 => ?_)
  refine j_if_eq (tgt := 27) dX10_from_4 rfl ?_ ?_
  · refine j_iconst dX10_from_27 (inr_d rfl) ?_
    exact j_iret hq dX10_from_28
  · refine j_iload_n dX10_from_7 rfl rfl ?_
    refine j_iconst dX10_from_8 (inr_d rfl) ?_
    refine j_bipush (v := 7) dX10_from_9 (by decide +kernel) (inr_d rfl) ?_
    refine j_callSi (mX10_isWithin (kl K) (kD K) (kad K) (kcA K) a2 (-1) 7 s2) cw_RX10_97 ⟨rfl, rfl, by decide, by decide⟩ rfl rfl (Nat.le_of_ble_eq_true rfl) dX10_from_11 (fun r3 s4 => ?_)
    refine j_if_eq (tgt := 27) dX10_from_14 rfl ?_ ?_
    · refine j_iconst dX10_from_27 (inr_d rfl) ?_
      exact j_iret hq dX10_from_28
    · refine j_iload_n dX10_from_17 rfl rfl ?_
      refine j_iconst dX10_from_18 (inr_d rfl) ?_
      refine j_ldc (v := 100000) dX10_from_19 cst_RX10_245 (inr_d rfl) ?_
      refine j_callSi (mX10_isWithin (kl K) (kD K) (kad K) (kcA K) a3 0 100000 s4) cw_RX10_97 ⟨rfl, rfl, by decide, by decide⟩ rfl rfl (Nat.le_of_ble_eq_true rfl) dX10_from_21 (fun r5 s6 => ?_)
      refine j_if_ne (tgt := 29) dX10_from_24 rfl ?_ ?_
      · refine j_iload_n dX10_from_29 rfl rfl ?_
        refine j_iconst dX10_from_30 (inr_d rfl) ?_
        refine j_jn (fun k51 => ∀ (s7 : Mem), J K rmX10_from cX10_from RX10 4 51 [some (.inr (.inr 0)), some (.inl a1), some (.inl a2), some (.inl a3)] [] s7 (k51 s7)) (fun s7 => ?_) (fun k51 hk51 => ?_)
        · refine j_aload_n dX10_from_51 rfl rfl ?_
          refine j_getR fl_RX10_45 sh_0 rfl dX10_from_52 ?_
          refine j_getR fl_RX10_262 sh_20 rfl dX10_from_55 ?_
          refine j_iload_n dX10_from_58 rfl rfl ?_
          refine j_iload_n dX10_from_59 rfl rfl ?_
          refine j_iast sh_32 dX10_from_60 (fun s8 => ?_)
          refine j_aload_n dX10_from_61 rfl rfl ?_
          refine j_getR fl_RX10_45 sh_0 rfl dX10_from_62 ?_
          refine j_getR fl_RX10_265 sh_20 rfl dX10_from_65 ?_
          refine j_iload_n dX10_from_68 rfl rfl ?_
          refine j_iload_n dX10_from_69 rfl rfl ?_
          refine j_iast sh_33 dX10_from_70 (fun s9 => ?_)
          refine j_iconst dX10_from_71 (inr_d rfl) ?_
          exact j_iret hq dX10_from_72
        refine j_icmp_eq (tgt := 51) dX10_from_31 rfl ?_ ?_
        · exact j_msk [true, true, true, true] (hk51 _)
        · refine j_aload_n dX10_from_34 rfl rfl ?_
          refine j_getR fl_RX10_45 sh_0 rfl dX10_from_35 ?_
          refine j_getR fl_RX10_248 sh_20 rfl dX10_from_38 ?_
          refine j_iload_n dX10_from_41 rfl rfl ?_
          refine j_callVi (mX5_isTold (kl K) (kD K) (kad K) (kcA K) 34 isRe_34 a2 s6) cw_RX10_255 sh_34 rfl ⟨rfl, rfl, by decide, by decide⟩ rfl rfl (Nat.le_of_ble_eq_true rfl) dX10_from_42 (fun r10 s11 => ?_)
          refine j_if_ne (tgt := 51) dX10_from_45 rfl ?_ ?_
          · exact j_msk [true, true, true, true] (hk51 _)
          · refine j_bipush (v := (-2)) dX10_from_48 (by decide +kernel) (inr_d rfl) ?_
            exact j_iret hq dX10_from_50
      · refine j_iconst dX10_from_27 (inr_d rfl) ?_
        exact j_iret hq dX10_from_28
abbrev rmX10_edge : Room := { frames := 2, cells := 0, slots := 0, locals := 44 }
theorem dX10_edge_0 : decode cX10_edge 0 = .ok (.iload_n 1, 1) := by decide +kernel
theorem dX10_edge_1 : decode cX10_edge 1 = .ok (.ifCond .ge 5, 3) := by decide +kernel
theorem dX10_edge_4 : decode cX10_edge 4 = .ok (.iconst (-1), 1) := by decide +kernel
theorem dX10_edge_5 : decode cX10_edge 5 = .ok (.ireturn, 1) := by decide +kernel
theorem dX10_edge_6 : decode cX10_edge 6 = .ok (.aload_n 0, 1) := by decide +kernel
theorem dX10_edge_7 : decode cX10_edge 7 = .ok (.getfield 45, 3) := by decide +kernel
theorem dX10_edge_10 : decode cX10_edge 10 = .ok (.getfield 171, 3) := by decide +kernel
theorem dX10_edge_13 : decode cX10_edge 13 = .ok (.iload_n 1, 1) := by decide +kernel
theorem dX10_edge_14 : decode cX10_edge 14 = .ok (.invokevirtual 178, 3) := by decide +kernel
theorem dX10_edge_17 : decode cX10_edge 17 = .ok (.ifCond .eq 14, 3) := by decide +kernel
theorem dX10_edge_20 : decode cX10_edge 20 = .ok (.aload_n 0, 1) := by decide +kernel
theorem dX10_edge_21 : decode cX10_edge 21 = .ok (.getfield 45, 3) := by decide +kernel
theorem dX10_edge_24 : decode cX10_edge 24 = .ok (.iload_n 1, 1) := by decide +kernel
theorem dX10_edge_25 : decode cX10_edge 25 = .ok (.invokevirtual 268, 3) := by decide +kernel
theorem dX10_edge_28 : decode cX10_edge 28 = .ok (.goto 5, 3) := by decide +kernel
theorem dX10_edge_31 : decode cX10_edge 31 = .ok (.bipush (-2), 2) := by decide +kernel
theorem dX10_edge_33 : decode cX10_edge 33 = .ok (.ireturn, 1) := by decide +kernel
def fX10_edge (a1 : Int) (s0 : Mem) : Option Res :=
 (if 0 ≤ a1 then
 bnd (fX6_hasFrame 21 a1 s0) (fun r1 s2 =>
 (if r1 = 0 then
 some ((-2), s2)
 else
 bnd (fX2_edgeAt 20 a1 s2) (fun r3 s4 =>
 some (r3, s4))))
 else
 some ((-1), s0))
set_option maxRecDepth 100000 in
set_option maxHeartbeats 4000000 in
theorem mX10_edge (l : Launch) (D : va_G) (ad : Nat → Nat) (cA : Nat → ClassId) (a1 : Int) (s0 : Mem) : MCi l D ad cA yX10_edge cX10_edge 2 (some .int) rmX10_edge [.inr (.inr 0), .inl a1] s0 (fX10_edge a1 s0) := by
  refine MCi_ofE (own := RX10) (ls := [some (.inr (.inr 0)), some (.inl a1)]) 0 (by decide +kernel) rfl rfl (fun _ => Nat.le_of_ble_eq_true rfl) (fun K hq => ?_)
  unfold fX10_edge
  refine j_iload_n dX10_edge_0 rfl rfl ?_
  refine j_if_ge (tgt := 6) dX10_edge_1 rfl ?_ ?_
  · refine j_aload_n dX10_edge_6 rfl rfl ?_
    refine j_getR fl_RX10_45 sh_0 rfl dX10_edge_7 ?_
    refine j_getR fl_RX10_171 sh_20 rfl dX10_edge_10 ?_
    refine j_iload_n dX10_edge_13 rfl rfl ?_
    refine j_callVi (mX6_hasFrame (kl K) (kD K) (kad K) (kcA K) 21 isSc_21 a1 s0) cw_RX10_178 sh_21 rfl ⟨rfl, rfl, by decide, by decide⟩ rfl rfl (Nat.le_of_ble_eq_true rfl) dX10_edge_14 (fun r1 s2 => ?_)
    refine j_if_eq (tgt := 31) dX10_edge_17 rfl ?_ ?_
    · refine j_bipush (v := (-2)) dX10_edge_31 (by decide +kernel) (inr_d rfl) ?_
      exact j_iret hq dX10_edge_33
    · refine j_aload_n dX10_edge_20 rfl rfl ?_
      refine j_getR fl_RX10_45 sh_0 rfl dX10_edge_21 ?_
      refine j_iload_n dX10_edge_24 rfl rfl ?_
      refine j_callVi (mX2_edgeAt (kl K) (kD K) (kad K) (kcA K) 20 isJo_20 a1 s2) cw_RX10_268 sh_20 rfl ⟨rfl, rfl, by decide, by decide⟩ rfl rfl (Nat.le_of_ble_eq_true rfl) dX10_edge_25 (fun r3 s4 => ?_)
      refine j_goto (tgt := 33) dX10_edge_28 rfl ?_
      exact j_iret hq dX10_edge_33
  · refine j_iconst dX10_edge_4 (inr_d rfl) ?_
    exact j_iret hq dX10_edge_5
abbrev rmX10_missing : Room := { frames := 4, cells := 0, slots := 0, locals := 86 }
theorem dX10_missing_0 : decode cX10_missing 0 = .ok (.aload_n 0, 1) := by decide +kernel
theorem dX10_missing_1 : decode cX10_missing 1 = .ok (.getfield 45, 3) := by decide +kernel
theorem dX10_missing_4 : decode cX10_missing 4 = .ok (.getfield 171, 3) := by decide +kernel
theorem dX10_missing_7 : decode cX10_missing 7 = .ok (.getfield 164, 3) := by decide +kernel
theorem dX10_missing_10 : decode cX10_missing 10 = .ok (.ifCond .ne 6, 3) := by decide +kernel
theorem dX10_missing_13 : decode cX10_missing 13 = .ok (.bipush (-2), 2) := by decide +kernel
theorem dX10_missing_15 : decode cX10_missing 15 = .ok (.ireturn, 1) := by decide +kernel
theorem dX10_missing_16 : decode cX10_missing 16 = .ok (.iconst 0, 1) := by decide +kernel
theorem dX10_missing_17 : decode cX10_missing 17 = .ok (.istore_n 1, 1) := by decide +kernel
theorem dX10_missing_18 : decode cX10_missing 18 = .ok (.iconst 0, 1) := by decide +kernel
theorem dX10_missing_19 : decode cX10_missing 19 = .ok (.istore_n 2, 1) := by decide +kernel
theorem dX10_missing_20 : decode cX10_missing 20 = .ok (.iload_n 2, 1) := by decide +kernel
theorem dX10_missing_21 : decode cX10_missing 21 = .ok (.aload_n 0, 1) := by decide +kernel
theorem dX10_missing_22 : decode cX10_missing 22 = .ok (.getfield 45, 3) := by decide +kernel
theorem dX10_missing_25 : decode cX10_missing 25 = .ok (.getfield 171, 3) := by decide +kernel
theorem dX10_missing_28 : decode cX10_missing 28 = .ok (.getfield 164, 3) := by decide +kernel
theorem dX10_missing_31 : decode cX10_missing 31 = .ok (.if_icmp .ge 26, 3) := by decide +kernel
theorem dX10_missing_34 : decode cX10_missing 34 = .ok (.aload_n 0, 1) := by decide +kernel
theorem dX10_missing_35 : decode cX10_missing 35 = .ok (.getfield 45, 3) := by decide +kernel
theorem dX10_missing_38 : decode cX10_missing 38 = .ok (.iload_n 2, 1) := by decide +kernel
theorem dX10_missing_39 : decode cX10_missing 39 = .ok (.invokevirtual 271, 3) := by decide +kernel
theorem dX10_missing_42 : decode cX10_missing 42 = .ok (.ifCond .eq 9, 3) := by decide +kernel
theorem dX10_missing_45 : decode cX10_missing 45 = .ok (.iload_n 1, 1) := by decide +kernel
theorem dX10_missing_46 : decode cX10_missing 46 = .ok (.iconst 1, 1) := by decide +kernel
theorem dX10_missing_47 : decode cX10_missing 47 = .ok (.iload_n 2, 1) := by decide +kernel
theorem dX10_missing_48 : decode cX10_missing 48 = .ok (.ishl, 1) := by decide +kernel
theorem dX10_missing_49 : decode cX10_missing 49 = .ok (.ior, 1) := by decide +kernel
theorem dX10_missing_50 : decode cX10_missing 50 = .ok (.istore_n 1, 1) := by decide +kernel
theorem dX10_missing_51 : decode cX10_missing 51 = .ok (.iinc 2 1, 3) := by decide +kernel
theorem dX10_missing_54 : decode cX10_missing 54 = .ok (.goto (-34), 3) := by decide +kernel
theorem dX10_missing_57 : decode cX10_missing 57 = .ok (.iload_n 1, 1) := by decide +kernel
theorem dX10_missing_58 : decode cX10_missing 58 = .ok (.ireturn, 1) := by decide +kernel
def LX10_missing_20 (k57 : Int → Mem → Option Res) : Nat → Int → Int → Mem → Option Res
  | 0 => fun _ _ _ => none
  | n + 1 => fun x1 x2 s => (if s 21 0 ≤ x2 then
 k57 x1 s
 else
 bnd (fX2_isMissing 20 x2 s) (fun r1 s2 =>
 (if r1 = 0 then
 LX10_missing_20 k57 n x1 (wr (x2 + 1)) s2
 else
 lt (iir x1 (ish 1 x2)) (fun v3 =>
 LX10_missing_20 k57 n v3 (wr (x2 + 1)) s2))))
def fX10_missing (s0 : Mem) : Option Res :=
 (if s0 21 0 ≠ 0 then
 LX10_missing_20 (fun y5 s4 =>
 some (y5, s4)) FU 0 0 s0
 else
 some ((-2), s0))
set_option maxRecDepth 100000 in
set_option maxHeartbeats 4000000 in
theorem jLX10_missing_20 {K : KT} (hq : KI K (some .int)) (k57 : Int → Mem → Option Res) (hk57 : ∀ (y1 : Int) (s : Mem), J K rmX10_missing cX10_missing RX10 3 57 [none, some (.inl y1), none] [] s (k57 y1 s)) : ∀ (n : Nat) (x1 : Int) (x2 : Int) (s : Mem), J K rmX10_missing cX10_missing RX10 3 20 [some (.inr (.inr 0)), some (.inl x1), some (.inl x2)] [] s (LX10_missing_20 k57 n x1 x2 s) := by
  intro n
  induction n with
  | zero => intros; exact J_none
  | succ n ih =>
    intro x1 x2 s
    show J K _ _ _ _ _ _ _ _ (LX10_missing_20 k57 (n + 1) x1 x2 s)
    simp only [LX10_missing_20]
    refine j_iload_n dX10_missing_20 rfl rfl ?_
    refine j_aload_n dX10_missing_21 rfl rfl ?_
    refine j_getR fl_RX10_45 sh_0 rfl dX10_missing_22 ?_
    refine j_getR fl_RX10_171 sh_20 rfl dX10_missing_25 ?_
    refine j_getI fl_RX10_164 sh_21 rfl dX10_missing_28 ?_
    refine j_icmp_ge (tgt := 57) dX10_missing_31 rfl ?_ ?_
    · exact j_msk [false, true, false] (hk57 _ _)
    · refine j_aload_n dX10_missing_34 rfl rfl ?_
      refine j_getR fl_RX10_45 sh_0 rfl dX10_missing_35 ?_
      refine j_iload_n dX10_missing_38 rfl rfl ?_
      refine j_callVi (mX2_isMissing (kl K) (kD K) (kad K) (kcA K) 20 isJo_20 x2 s) cw_RX10_271 sh_20 rfl ⟨rfl, rfl, by decide, by decide⟩ rfl rfl (Nat.le_of_ble_eq_true rfl) dX10_missing_39 (fun r1 s2 => ?_)
      refine j_if_eq (tgt := 51) dX10_missing_42 rfl ?_ ?_
      · refine j_iincE (ls2 := [some (.inr (.inr 0)), some (.inl x1), some (.inl (wr (x2 + 1)))]) dX10_missing_51 rfl (by decide) rfl rfl ?_
        refine j_goto (tgt := 20) dX10_missing_54 rfl ?_
        exact j_msk [true, true, true] (ih _ _ _)
      · refine j_iload_n dX10_missing_45 rfl rfl ?_
        refine j_iconst dX10_missing_46 (inr_d rfl) ?_
        refine j_iload_n dX10_missing_47 rfl rfl ?_
        refine j_ishl dX10_missing_48 ?_
        refine j_ior dX10_missing_49 ?_
        refine j_ltv (fun v3 => ?_)
        refine j_istore_nE (ls2 := [some (.inr (.inr 0)), some (.inl v3), some (.inl x2)]) dX10_missing_50 rfl (by decide) rfl rfl ?_
        refine j_iincE (ls2 := [some (.inr (.inr 0)), some (.inl v3), some (.inl (wr (x2 + 1)))]) dX10_missing_51 rfl (by decide) rfl rfl ?_
        refine j_goto (tgt := 20) dX10_missing_54 rfl ?_
        exact j_msk [true, true, true] (ih _ _ _)
set_option maxRecDepth 100000 in
set_option maxHeartbeats 4000000 in
theorem mX10_missing (l : Launch) (D : va_G) (ad : Nat → Nat) (cA : Nat → ClassId) (s0 : Mem) : MCi l D ad cA yX10_missing cX10_missing 3 (some .int) rmX10_missing [.inr (.inr 0)] s0 (fX10_missing s0) := by
  refine MCi_ofE (own := RX10) (ls := [some (.inr (.inr 0)), none, none]) 2 (by decide +kernel) rfl rfl (fun _ => Nat.le_of_ble_eq_true rfl) (fun K hq => ?_)
  unfold fX10_missing
  refine j_aload_n dX10_missing_0 rfl rfl ?_
  refine j_getR fl_RX10_45 sh_0 rfl dX10_missing_1 ?_
  refine j_getR fl_RX10_171 sh_20 rfl dX10_missing_4 ?_
  refine j_getI fl_RX10_164 sh_21 rfl dX10_missing_7 ?_
  refine j_if_ne (tgt := 16) dX10_missing_10 rfl ?_ ?_
  · refine j_iconst dX10_missing_16 (inr_d rfl) ?_
    refine j_istore_nE (ls2 := [some (.inr (.inr 0)), some (.inl 0), none]) dX10_missing_17 rfl (by decide) rfl rfl ?_
    refine j_iconst dX10_missing_18 (inr_d rfl) ?_
    refine j_istore_nE (ls2 := [some (.inr (.inr 0)), some (.inl 0), some (.inl 0)]) dX10_missing_19 rfl (by decide) rfl rfl ?_
    refine j_msk [true, true, true] (jLX10_missing_20 hq _ (fun y5 s4 => ?_) _ _ _ _)
    refine j_iload_n dX10_missing_57 rfl rfl ?_
    exact j_iret hq dX10_missing_58
  · refine j_bipush (v := (-2)) dX10_missing_13 (by decide +kernel) (inr_d rfl) ?_
    exact j_iret hq dX10_missing_15
abbrev rmX10_where : Room := { frames := 2, cells := 0, slots := 0, locals := 45 }
theorem dX10_where_0 : decode cX10_where 0 = .ok (.iload_n 1, 1) := by decide +kernel
theorem dX10_where_1 : decode cX10_where 1 = .ok (.invokestatic 242, 3) := by decide +kernel
theorem dX10_where_4 : decode cX10_where 4 = .ok (.ifCond .eq 13, 3) := by decide +kernel
theorem dX10_where_7 : decode cX10_where 7 = .ok (.iload_n 2, 1) := by decide +kernel
theorem dX10_where_8 : decode cX10_where 8 = .ok (.iconst 0, 1) := by decide +kernel
theorem dX10_where_9 : decode cX10_where 9 = .ok (.ldc 245, 2) := by decide +kernel
theorem dX10_where_11 : decode cX10_where 11 = .ok (.invokestatic 97, 3) := by decide +kernel
theorem dX10_where_14 : decode cX10_where 14 = .ok (.ifCond .ne 5, 3) := by decide +kernel
theorem dX10_where_17 : decode cX10_where 17 = .ok (.iconst (-1), 1) := by decide +kernel
theorem dX10_where_18 : decode cX10_where 18 = .ok (.ireturn, 1) := by decide +kernel
theorem dX10_where_19 : decode cX10_where 19 = .ok (.aload_n 0, 1) := by decide +kernel
theorem dX10_where_20 : decode cX10_where 20 = .ok (.getfield 45, 3) := by decide +kernel
theorem dX10_where_23 : decode cX10_where 23 = .ok (.getfield 171, 3) := by decide +kernel
theorem dX10_where_26 : decode cX10_where 26 = .ok (.getfield 164, 3) := by decide +kernel
theorem dX10_where_29 : decode cX10_where 29 = .ok (.ifCond .ne 8, 3) := by decide +kernel
theorem dX10_where_32 : decode cX10_where 32 = .ok (.bipush (-2), 2) := by decide +kernel
theorem dX10_where_34 : decode cX10_where 34 = .ok (.goto 12, 3) := by decide +kernel
theorem dX10_where_37 : decode cX10_where 37 = .ok (.aload_n 0, 1) := by decide +kernel
theorem dX10_where_38 : decode cX10_where 38 = .ok (.getfield 45, 3) := by decide +kernel
theorem dX10_where_41 : decode cX10_where 41 = .ok (.iload_n 1, 1) := by decide +kernel
theorem dX10_where_42 : decode cX10_where 42 = .ok (.iload_n 2, 1) := by decide +kernel
theorem dX10_where_43 : decode cX10_where 43 = .ok (.invokevirtual 274, 3) := by decide +kernel
theorem dX10_where_46 : decode cX10_where 46 = .ok (.ireturn, 1) := by decide +kernel
def fX10_where (a1 : Int) (a2 : Int) (s0 : Mem) : Option Res :=
 bnd (fX10_isReel a1 s0) (fun r1 s2 =>
 (if r1 = 0 then
 some ((-1), s2)
 else
 bnd (fX10_isWithin a2 0 100000 s2) (fun r3 s4 =>
 (if r3 ≠ 0 then
 (if s4 21 0 ≠ 0 then
 bnd (fX2_frameWith 20 a1 a2 s4) (fun r5 s6 =>
 some (r5, s6))
 else
 some ((-2), s4))
 else
 some ((-1), s4)))))
set_option maxRecDepth 100000 in
set_option maxHeartbeats 4000000 in
theorem mX10_where (l : Launch) (D : va_G) (ad : Nat → Nat) (cA : Nat → ClassId) (a1 : Int) (a2 : Int) (s0 : Mem) : MCi l D ad cA yX10_where cX10_where 3 (some .int) rmX10_where [.inr (.inr 0), .inl a1, .inl a2] s0 (fX10_where a1 a2 s0) := by
  refine MCi_ofE (own := RX10) (ls := [some (.inr (.inr 0)), some (.inl a1), some (.inl a2)]) 0 (by decide +kernel) rfl rfl (fun _ => Nat.le_of_ble_eq_true rfl) (fun K hq => ?_)
  unfold fX10_where
  refine j_iload_n dX10_where_0 rfl rfl ?_
  refine j_callSi (mX10_isReel (kl K) (kD K) (kad K) (kcA K) a1 s0) cw_RX10_242 ⟨rfl, rfl, by decide, by decide⟩ rfl rfl (Nat.le_of_ble_eq_true rfl) dX10_where_1 (fun r1 s2 => ?_)
  refine j_if_eq (tgt := 17) dX10_where_4 rfl ?_ ?_
  · refine j_iconst dX10_where_17 (inr_d rfl) ?_
    exact j_iret hq dX10_where_18
  · refine j_iload_n dX10_where_7 rfl rfl ?_
    refine j_iconst dX10_where_8 (inr_d rfl) ?_
    refine j_ldc (v := 100000) dX10_where_9 cst_RX10_245 (inr_d rfl) ?_
    refine j_callSi (mX10_isWithin (kl K) (kD K) (kad K) (kcA K) a2 0 100000 s2) cw_RX10_97 ⟨rfl, rfl, by decide, by decide⟩ rfl rfl (Nat.le_of_ble_eq_true rfl) dX10_where_11 (fun r3 s4 => ?_)
    refine j_if_ne (tgt := 19) dX10_where_14 rfl ?_ ?_
    · refine j_aload_n dX10_where_19 rfl rfl ?_
      refine j_getR fl_RX10_45 sh_0 rfl dX10_where_20 ?_
      refine j_getR fl_RX10_171 sh_20 rfl dX10_where_23 ?_
      refine j_getI fl_RX10_164 sh_21 rfl dX10_where_26 ?_
      refine j_if_ne (tgt := 37) dX10_where_29 rfl ?_ ?_
      · refine j_aload_n dX10_where_37 rfl rfl ?_
        refine j_getR fl_RX10_45 sh_0 rfl dX10_where_38 ?_
        refine j_iload_n dX10_where_41 rfl rfl ?_
        refine j_iload_n dX10_where_42 rfl rfl ?_
        refine j_callVi (mX2_frameWith (kl K) (kD K) (kad K) (kcA K) 20 isJo_20 a1 a2 s4) cw_RX10_274 sh_20 rfl ⟨rfl, rfl, by decide, by decide⟩ rfl rfl (Nat.le_of_ble_eq_true rfl) dX10_where_43 (fun r5 s6 => ?_)
        exact j_iret hq dX10_where_46
      · refine j_bipush (v := (-2)) dX10_where_32 (by decide +kernel) (inr_d rfl) ?_
        refine j_goto (tgt := 46) dX10_where_34 rfl ?_
        exact j_iret hq dX10_where_46
    · refine j_iconst dX10_where_17 (inr_d rfl) ?_
      exact j_iret hq dX10_where_18
abbrev rmX10_splice : Room := { frames := 2, cells := 0, slots := 0, locals := 43 }
theorem dX10_splice_0 : decode cX10_splice 0 = .ok (.iload_n 1, 1) := by decide +kernel
theorem dX10_splice_1 : decode cX10_splice 1 = .ok (.iconst 0, 1) := by decide +kernel
theorem dX10_splice_2 : decode cX10_splice 2 = .ok (.bipush 14, 2) := by decide +kernel
theorem dX10_splice_4 : decode cX10_splice 4 = .ok (.invokestatic 97, 3) := by decide +kernel
theorem dX10_splice_7 : decode cX10_splice 7 = .ok (.ifCond .ne 5, 3) := by decide +kernel
theorem dX10_splice_10 : decode cX10_splice 10 = .ok (.iconst (-1), 1) := by decide +kernel
theorem dX10_splice_11 : decode cX10_splice 11 = .ok (.ireturn, 1) := by decide +kernel
theorem dX10_splice_12 : decode cX10_splice 12 = .ok (.iload_n 1, 1) := by decide +kernel
theorem dX10_splice_13 : decode cX10_splice 13 = .ok (.iconst 1, 1) := by decide +kernel
theorem dX10_splice_14 : decode cX10_splice 14 = .ok (.iadd, 1) := by decide +kernel
theorem dX10_splice_15 : decode cX10_splice 15 = .ok (.aload_n 0, 1) := by decide +kernel
theorem dX10_splice_16 : decode cX10_splice 16 = .ok (.getfield 45, 3) := by decide +kernel
theorem dX10_splice_19 : decode cX10_splice 19 = .ok (.getfield 171, 3) := by decide +kernel
theorem dX10_splice_22 : decode cX10_splice 22 = .ok (.getfield 164, 3) := by decide +kernel
theorem dX10_splice_25 : decode cX10_splice 25 = .ok (.if_icmp .lt 6, 3) := by decide +kernel
theorem dX10_splice_28 : decode cX10_splice 28 = .ok (.bipush (-2), 2) := by decide +kernel
theorem dX10_splice_30 : decode cX10_splice 30 = .ok (.ireturn, 1) := by decide +kernel
theorem dX10_splice_31 : decode cX10_splice 31 = .ok (.aload_n 0, 1) := by decide +kernel
theorem dX10_splice_32 : decode cX10_splice 32 = .ok (.getfield 45, 3) := by decide +kernel
theorem dX10_splice_35 : decode cX10_splice 35 = .ok (.iload_n 1, 1) := by decide +kernel
theorem dX10_splice_36 : decode cX10_splice 36 = .ok (.invokevirtual 277, 3) := by decide +kernel
theorem dX10_splice_39 : decode cX10_splice 39 = .ok (.ifCond .eq 15, 3) := by decide +kernel
theorem dX10_splice_42 : decode cX10_splice 42 = .ok (.aload_n 0, 1) := by decide +kernel
theorem dX10_splice_43 : decode cX10_splice 43 = .ok (.getfield 45, 3) := by decide +kernel
theorem dX10_splice_46 : decode cX10_splice 46 = .ok (.getfield 280, 3) := by decide +kernel
theorem dX10_splice_49 : decode cX10_splice 49 = .ok (.iload_n 1, 1) := by decide +kernel
theorem dX10_splice_50 : decode cX10_splice 50 = .ok (.iaload, 1) := by decide +kernel
theorem dX10_splice_51 : decode cX10_splice 51 = .ok (.goto 5, 3) := by decide +kernel
theorem dX10_splice_54 : decode cX10_splice 54 = .ok (.bipush (-4), 2) := by decide +kernel
theorem dX10_splice_56 : decode cX10_splice 56 = .ok (.ireturn, 1) := by decide +kernel
def fX10_splice (a1 : Int) (s0 : Mem) : Option Res :=
 bnd (fX10_isWithin a1 0 14 s0) (fun r1 s2 =>
 (if r1 ≠ 0 then
 (if wr (a1 + 1) < s2 21 0 then
 bnd (fX2_isSpliced 20 a1 s2) (fun r3 s4 =>
 (if r3 = 0 then
 some ((-4), s4)
 else
 rd (s4 38) a1 15 (fun v5 =>
 some (v5, s4))))
 else
 some ((-2), s2))
 else
 some ((-1), s2)))
set_option maxRecDepth 100000 in
set_option maxHeartbeats 4000000 in
theorem mX10_splice (l : Launch) (D : va_G) (ad : Nat → Nat) (cA : Nat → ClassId) (a1 : Int) (s0 : Mem) : MCi l D ad cA yX10_splice cX10_splice 2 (some .int) rmX10_splice [.inr (.inr 0), .inl a1] s0 (fX10_splice a1 s0) := by
  refine MCi_ofE (own := RX10) (ls := [some (.inr (.inr 0)), some (.inl a1)]) 0 (by decide +kernel) rfl rfl (fun _ => Nat.le_of_ble_eq_true rfl) (fun K hq => ?_)
  unfold fX10_splice
  refine j_iload_n dX10_splice_0 rfl rfl ?_
  refine j_iconst dX10_splice_1 (inr_d rfl) ?_
  refine j_bipush (v := 14) dX10_splice_2 (by decide +kernel) (inr_d rfl) ?_
  refine j_callSi (mX10_isWithin (kl K) (kD K) (kad K) (kcA K) a1 0 14 s0) cw_RX10_97 ⟨rfl, rfl, by decide, by decide⟩ rfl rfl (Nat.le_of_ble_eq_true rfl) dX10_splice_4 (fun r1 s2 => ?_)
  refine j_if_ne (tgt := 12) dX10_splice_7 rfl ?_ ?_
  · refine j_iload_n dX10_splice_12 rfl rfl ?_
    refine j_iconst dX10_splice_13 (inr_d rfl) ?_
    refine j_iadd dX10_splice_14 ?_
    refine j_aload_n dX10_splice_15 rfl rfl ?_
    refine j_getR fl_RX10_45 sh_0 rfl dX10_splice_16 ?_
    refine j_getR fl_RX10_171 sh_20 rfl dX10_splice_19 ?_
    refine j_getI fl_RX10_164 sh_21 rfl dX10_splice_22 ?_
    refine j_icmp_lt (tgt := 31) dX10_splice_25 rfl ?_ ?_
    · refine j_aload_n dX10_splice_31 rfl rfl ?_
      refine j_getR fl_RX10_45 sh_0 rfl dX10_splice_32 ?_
      refine j_iload_n dX10_splice_35 rfl rfl ?_
      refine j_callVi (mX2_isSpliced (kl K) (kD K) (kad K) (kcA K) 20 isJo_20 a1 s2) cw_RX10_277 sh_20 rfl ⟨rfl, rfl, by decide, by decide⟩ rfl rfl (Nat.le_of_ble_eq_true rfl) dX10_splice_36 (fun r3 s4 => ?_)
      refine j_if_eq (tgt := 54) dX10_splice_39 rfl ?_ ?_
      · refine j_bipush (v := (-4)) dX10_splice_54 (by decide +kernel) (inr_d rfl) ?_
        exact j_iret hq dX10_splice_56
      · refine j_aload_n dX10_splice_42 rfl rfl ?_
        refine j_getR fl_RX10_45 sh_0 rfl dX10_splice_43 ?_
        refine j_getR fl_RX10_280 sh_20 rfl dX10_splice_46 ?_
        refine j_iload_n dX10_splice_49 rfl rfl ?_
        refine j_iald sh_38 dX10_splice_50 (fun v5 => ?_)
        refine j_goto (tgt := 56) dX10_splice_51 rfl ?_
        exact j_iret hq dX10_splice_56
    · refine j_bipush (v := (-2)) dX10_splice_28 (by decide +kernel) (inr_d rfl) ?_
      exact j_iret hq dX10_splice_30
  · refine j_iconst dX10_splice_10 (inr_d rfl) ?_
    exact j_iret hq dX10_splice_11
abbrev rmX10_run : Room := { frames := 5, cells := 0, slots := 0, locals := 117 }
theorem dX10_run_0 : decode cX10_run 0 = .ok (.iload_n 1, 1) := by decide +kernel
theorem dX10_run_1 : decode cX10_run 1 = .ok (.invokestatic 105, 3) := by decide +kernel
theorem dX10_run_4 : decode cX10_run 4 = .ok (.ifCond .ne 5, 3) := by decide +kernel
theorem dX10_run_7 : decode cX10_run 7 = .ok (.iconst (-1), 1) := by decide +kernel
theorem dX10_run_8 : decode cX10_run 8 = .ok (.ireturn, 1) := by decide +kernel
theorem dX10_run_9 : decode cX10_run 9 = .ok (.aload_n 0, 1) := by decide +kernel
theorem dX10_run_10 : decode cX10_run 10 = .ok (.getfield 45, 3) := by decide +kernel
theorem dX10_run_13 : decode cX10_run 13 = .ok (.getfield 171, 3) := by decide +kernel
theorem dX10_run_16 : decode cX10_run 16 = .ok (.getfield 164, 3) := by decide +kernel
theorem dX10_run_19 : decode cX10_run 19 = .ok (.ifCond .eq 13, 3) := by decide +kernel
theorem dX10_run_22 : decode cX10_run 22 = .ok (.aload_n 0, 1) := by decide +kernel
theorem dX10_run_23 : decode cX10_run 23 = .ok (.getfield 45, 3) := by decide +kernel
theorem dX10_run_26 : decode cX10_run 26 = .ok (.invokevirtual 283, 3) := by decide +kernel
theorem dX10_run_29 : decode cX10_run 29 = .ok (.ifCond .le 6, 3) := by decide +kernel
theorem dX10_run_32 : decode cX10_run 32 = .ok (.bipush (-2), 2) := by decide +kernel
theorem dX10_run_34 : decode cX10_run 34 = .ok (.ireturn, 1) := by decide +kernel
theorem dX10_run_35 : decode cX10_run 35 = .ok (.aload_n 0, 1) := by decide +kernel
theorem dX10_run_36 : decode cX10_run 36 = .ok (.getfield 45, 3) := by decide +kernel
theorem dX10_run_39 : decode cX10_run 39 = .ok (.aload_n 0, 1) := by decide +kernel
theorem dX10_run_40 : decode cX10_run 40 = .ok (.getfield 25, 3) := by decide +kernel
theorem dX10_run_43 : decode cX10_run 43 = .ok (.iconst 3, 1) := by decide +kernel
theorem dX10_run_44 : decode cX10_run 44 = .ok (.iaload, 1) := by decide +kernel
theorem dX10_run_45 : decode cX10_run 45 = .ok (.invokevirtual 286, 3) := by decide +kernel
theorem dX10_run_48 : decode cX10_run 48 = .ok (.istore_n 2, 1) := by decide +kernel
theorem dX10_run_49 : decode cX10_run 49 = .ok (.aload_n 0, 1) := by decide +kernel
theorem dX10_run_50 : decode cX10_run 50 = .ok (.getfield 10, 3) := by decide +kernel
theorem dX10_run_53 : decode cX10_run 53 = .ok (.iload_n 1, 1) := by decide +kernel
theorem dX10_run_54 : decode cX10_run 54 = .ok (.aload_n 0, 1) := by decide +kernel
theorem dX10_run_55 : decode cX10_run 55 = .ok (.getfield 45, 3) := by decide +kernel
theorem dX10_run_58 : decode cX10_run 58 = .ok (.getfield 171, 3) := by decide +kernel
theorem dX10_run_61 : decode cX10_run 61 = .ok (.getfield 289, 3) := by decide +kernel
theorem dX10_run_64 : decode cX10_run 64 = .ok (.iload_n 2, 1) := by decide +kernel
theorem dX10_run_65 : decode cX10_run 65 = .ok (.iaload, 1) := by decide +kernel
theorem dX10_run_66 : decode cX10_run 66 = .ok (.invokestatic 204, 3) := by decide +kernel
theorem dX10_run_69 : decode cX10_run 69 = .ok (.invokevirtual 134, 3) := by decide +kernel
theorem dX10_run_72 : decode cX10_run 72 = .ok (.aload_n 0, 1) := by decide +kernel
theorem dX10_run_73 : decode cX10_run 73 = .ok (.dup, 1) := by decide +kernel
theorem dX10_run_74 : decode cX10_run 74 = .ok (.getfield 292, 3) := by decide +kernel
theorem dX10_run_77 : decode cX10_run 77 = .ok (.iconst 1, 1) := by decide +kernel
theorem dX10_run_78 : decode cX10_run 78 = .ok (.iadd, 1) := by decide +kernel
theorem dX10_run_79 : decode cX10_run 79 = .ok (.putfield 292, 3) := by decide +kernel
theorem dX10_run_82 : decode cX10_run 82 = .ok (.iload_n 2, 1) := by decide +kernel
theorem dX10_run_83 : decode cX10_run 83 = .ok (.ireturn, 1) := by decide +kernel
def fX10_run (a1 : Int) (s0 : Mem) : Option Res :=
 bnd (fX10_isBath a1 s0) (fun r1 s2 =>
 (if r1 ≠ 0 then
 (if s2 21 0 = 0 then
 some ((-2), s2)
 else
 bnd (fX2_countOpen 20 s2) (fun r3 s4 =>
 (if r3 ≤ 0 then
 rd (s4 7) 3 4 (fun v5 =>
 bnd (fX2_wearSplices 20 v5 s4) (fun r6 s7 =>
 rd (s7 22) r6 17 (fun v8 =>
 bnd (fX10_feetOf v8 s7) (fun r9 s10 =>
 bnd (fX9_pass a1 r9 s10) (fun _ s12 =>
 lt (up s12 0 13 (wr ((s12 0 13) + 1))) (fun s13 =>
 some (r6, s13)))))))
 else
 some ((-2), s4))))
 else
 some ((-1), s2)))
set_option maxRecDepth 100000 in
set_option maxHeartbeats 4000000 in
theorem mX10_run (l : Launch) (D : va_G) (ad : Nat → Nat) (cA : Nat → ClassId) (a1 : Int) (s0 : Mem) : MCi l D ad cA yX10_run cX10_run 3 (some .int) rmX10_run [.inr (.inr 0), .inl a1] s0 (fX10_run a1 s0) := by
  refine MCi_ofE (own := RX10) (ls := [some (.inr (.inr 0)), some (.inl a1), none]) 1 (by decide +kernel) rfl rfl (fun _ => Nat.le_of_ble_eq_true rfl) (fun K hq => ?_)
  unfold fX10_run
  refine j_iload_n dX10_run_0 rfl rfl ?_
  refine j_callSi (mX10_isBath (kl K) (kD K) (kad K) (kcA K) a1 s0) cw_RX10_105 ⟨rfl, rfl, by decide, by decide⟩ rfl rfl (Nat.le_of_ble_eq_true rfl) dX10_run_1 (fun r1 s2 => ?_)
  refine j_if_ne (tgt := 9) dX10_run_4 rfl ?_ ?_
  · refine j_aload_n dX10_run_9 rfl rfl ?_
    refine j_getR fl_RX10_45 sh_0 rfl dX10_run_10 ?_
    refine j_getR fl_RX10_171 sh_20 rfl dX10_run_13 ?_
    refine j_getI fl_RX10_164 sh_21 rfl dX10_run_16 ?_
    refine j_if_eq (tgt := 32) dX10_run_19 rfl ?_ ?_
    · refine j_bipush (v := (-2)) dX10_run_32 (by decide +kernel) (inr_d rfl) ?_
      exact j_iret hq dX10_run_34
    · refine j_aload_n dX10_run_22 rfl rfl ?_
      refine j_getR fl_RX10_45 sh_0 rfl dX10_run_23 ?_
      refine j_callVi (mX2_countOpen (kl K) (kD K) (kad K) (kcA K) 20 isJo_20 s2) cw_RX10_283 sh_20 rfl ⟨rfl, rfl, by decide, by decide⟩ rfl rfl (Nat.le_of_ble_eq_true rfl) dX10_run_26 (fun r3 s4 => ?_)
      refine j_if_le (tgt := 35) dX10_run_29 rfl ?_ ?_
      · refine j_aload_n dX10_run_35 rfl rfl ?_
        refine j_getR fl_RX10_45 sh_0 rfl dX10_run_36 ?_
        refine j_aload_n dX10_run_39 rfl rfl ?_
        refine j_getR fl_RX10_25 sh_0 rfl dX10_run_40 ?_
        refine j_iconst dX10_run_43 (inr_d rfl) ?_
        refine j_iald sh_7 dX10_run_44 (fun v5 => ?_)
        refine j_callVi (mX2_wearSplices (kl K) (kD K) (kad K) (kcA K) 20 isJo_20 v5 s4) cw_RX10_286 sh_20 rfl ⟨rfl, rfl, by decide, by decide⟩ rfl rfl (Nat.le_of_ble_eq_true rfl) dX10_run_45 (fun r6 s7 => ?_)
        refine j_istore_nE (ls2 := [some (.inr (.inr 0)), some (.inl a1), some (.inl r6)]) dX10_run_48 rfl (by decide) rfl rfl ?_
        refine j_aload_n dX10_run_49 rfl rfl ?_
        refine j_getR fl_RX10_10 sh_0 rfl dX10_run_50 ?_
        refine j_iload_n dX10_run_53 rfl rfl ?_
        refine j_aload_n dX10_run_54 rfl rfl ?_
        refine j_getR fl_RX10_45 sh_0 rfl dX10_run_55 ?_
        refine j_getR fl_RX10_171 sh_20 rfl dX10_run_58 ?_
        refine j_getR fl_RX10_289 sh_21 rfl dX10_run_61 ?_
        refine j_iload_n dX10_run_64 rfl rfl ?_
        refine j_iald sh_22 dX10_run_65 (fun v8 => ?_)
        refine j_callSi (mX10_feetOf (kl K) (kD K) (kad K) (kcA K) v8 s7) cw_RX10_204 ⟨rfl, rfl, by decide, by decide⟩ rfl rfl (Nat.le_of_ble_eq_true rfl) dX10_run_66 (fun r9 s10 => ?_)
        refine j_callVv (mX9_pass (kl K) (kD K) (kad K) (kcA K) a1 r9 s10) cw_RX10_134 sh_1 rfl ⟨rfl, rfl, by decide, by decide⟩ rfl rfl (Nat.le_of_ble_eq_true rfl) dX10_run_69 (fun _ s12 => ?_)
        refine j_aload_n dX10_run_72 rfl rfl ?_
        refine j_dup rfl dX10_run_73 ?_
        refine j_getI fl_RX10_292 sh_0 rfl dX10_run_74 ?_
        refine j_iconst dX10_run_77 (inr_d rfl) ?_
        refine j_iadd dX10_run_78 ?_
        refine j_putI fp_RX10_292 sh_0 rfl dX10_run_79 (fun s13 => ?_)
        refine j_iload_n dX10_run_82 rfl rfl ?_
        exact j_iret hq dX10_run_83
      · refine j_bipush (v := (-2)) dX10_run_32 (by decide +kernel) (inr_d rfl) ?_
        exact j_iret hq dX10_run_34
  · refine j_iconst dX10_run_7 (inr_d rfl) ?_
    exact j_iret hq dX10_run_8
abbrev rmX10_mend : Room := { frames := 5, cells := 0, slots := 0, locals := 108 }
theorem dX10_mend_0 : decode cX10_mend 0 = .ok (.aload_n 0, 1) := by decide +kernel
theorem dX10_mend_1 : decode cX10_mend 1 = .ok (.getfield 45, 3) := by decide +kernel
theorem dX10_mend_4 : decode cX10_mend 4 = .ok (.invokevirtual 295, 3) := by decide +kernel
theorem dX10_mend_7 : decode cX10_mend 7 = .ok (.ireturn, 1) := by decide +kernel
def fX10_mend (s0 : Mem) : Option Res :=
 bnd (fX2_mendOpen 20 s0) (fun r1 s2 =>
 some (r1, s2))
set_option maxRecDepth 100000 in
set_option maxHeartbeats 4000000 in
theorem mX10_mend (l : Launch) (D : va_G) (ad : Nat → Nat) (cA : Nat → ClassId) (s0 : Mem) : MCi l D ad cA yX10_mend cX10_mend 1 (some .int) rmX10_mend [.inr (.inr 0)] s0 (fX10_mend s0) := by
  refine MCi_ofE (own := RX10) (ls := [some (.inr (.inr 0))]) 0 (by decide +kernel) rfl rfl (fun _ => Nat.le_of_ble_eq_true rfl) (fun K hq => ?_)
  unfold fX10_mend
  refine j_aload_n dX10_mend_0 rfl rfl ?_
  refine j_getR fl_RX10_45 sh_0 rfl dX10_mend_1 ?_
  refine j_callVi (mX2_mendOpen (kl K) (kD K) (kad K) (kcA K) 20 isJo_20 s0) cw_RX10_295 sh_20 rfl ⟨rfl, rfl, by decide, by decide⟩ rfl rfl (Nat.le_of_ble_eq_true rfl) dX10_mend_4 (fun r1 s2 => ?_)
  exact j_iret hq dX10_mend_7
abbrev rmX10_order : Room := { frames := 1, cells := 0, slots := 0, locals := 24 }
theorem dX10_order_0 : decode cX10_order 0 = .ok (.iload_n 1, 1) := by decide +kernel
theorem dX10_order_1 : decode cX10_order 1 = .ok (.iconst 1, 1) := by decide +kernel
theorem dX10_order_2 : decode cX10_order 2 = .ok (.bipush 40, 2) := by decide +kernel
theorem dX10_order_4 : decode cX10_order 4 = .ok (.invokestatic 97, 3) := by decide +kernel
theorem dX10_order_7 : decode cX10_order 7 = .ok (.ifCond .eq 14, 3) := by decide +kernel
theorem dX10_order_10 : decode cX10_order 10 = .ok (.iload_n 2, 1) := by decide +kernel
theorem dX10_order_11 : decode cX10_order 11 = .ok (.iconst 0, 1) := by decide +kernel
theorem dX10_order_12 : decode cX10_order 12 = .ok (.sipush 400, 3) := by decide +kernel
theorem dX10_order_15 : decode cX10_order 15 = .ok (.invokestatic 97, 3) := by decide +kernel
theorem dX10_order_18 : decode cX10_order 18 = .ok (.ifCond .ne 5, 3) := by decide +kernel
theorem dX10_order_21 : decode cX10_order 21 = .ok (.iconst (-1), 1) := by decide +kernel
theorem dX10_order_22 : decode cX10_order 22 = .ok (.ireturn, 1) := by decide +kernel
theorem dX10_order_23 : decode cX10_order 23 = .ok (.iload_n 3, 1) := by decide +kernel
theorem dX10_order_24 : decode cX10_order 24 = .ok (.iconst 1, 1) := by decide +kernel
theorem dX10_order_25 : decode cX10_order 25 = .ok (.bipush 20, 2) := by decide +kernel
theorem dX10_order_27 : decode cX10_order 27 = .ok (.invokestatic 97, 3) := by decide +kernel
theorem dX10_order_30 : decode cX10_order 30 = .ok (.ifCond .eq 13, 3) := by decide +kernel
theorem dX10_order_33 : decode cX10_order 33 = .ok (.iload 4, 2) := by decide +kernel
theorem dX10_order_35 : decode cX10_order 35 = .ok (.iconst 0, 1) := by decide +kernel
theorem dX10_order_36 : decode cX10_order 36 = .ok (.iconst 5, 1) := by decide +kernel
theorem dX10_order_37 : decode cX10_order 37 = .ok (.invokestatic 97, 3) := by decide +kernel
theorem dX10_order_40 : decode cX10_order 40 = .ok (.ifCond .ne 5, 3) := by decide +kernel
theorem dX10_order_43 : decode cX10_order 43 = .ok (.iconst (-1), 1) := by decide +kernel
theorem dX10_order_44 : decode cX10_order 44 = .ok (.ireturn, 1) := by decide +kernel
theorem dX10_order_45 : decode cX10_order 45 = .ok (.aload_n 0, 1) := by decide +kernel
theorem dX10_order_46 : decode cX10_order 46 = .ok (.getfield 79, 3) := by decide +kernel
theorem dX10_order_49 : decode cX10_order 49 = .ok (.iload_n 1, 1) := by decide +kernel
theorem dX10_order_50 : decode cX10_order 50 = .ok (.iload_n 2, 1) := by decide +kernel
theorem dX10_order_51 : decode cX10_order 51 = .ok (.iload_n 3, 1) := by decide +kernel
theorem dX10_order_52 : decode cX10_order 52 = .ok (.iload 4, 2) := by decide +kernel
theorem dX10_order_54 : decode cX10_order 54 = .ok (.invokevirtual 298, 3) := by decide +kernel
theorem dX10_order_57 : decode cX10_order 57 = .ok (.ifCond .eq 15, 3) := by decide +kernel
theorem dX10_order_60 : decode cX10_order 60 = .ok (.aload_n 0, 1) := by decide +kernel
theorem dX10_order_61 : decode cX10_order 61 = .ok (.getfield 79, 3) := by decide +kernel
theorem dX10_order_64 : decode cX10_order 64 = .ok (.getfield 301, 3) := by decide +kernel
theorem dX10_order_67 : decode cX10_order 67 = .ok (.iconst 1, 1) := by decide +kernel
theorem dX10_order_68 : decode cX10_order 68 = .ok (.isub, 1) := by decide +kernel
theorem dX10_order_69 : decode cX10_order 69 = .ok (.goto 5, 3) := by decide +kernel
theorem dX10_order_72 : decode cX10_order 72 = .ok (.bipush (-3), 2) := by decide +kernel
theorem dX10_order_74 : decode cX10_order 74 = .ok (.ireturn, 1) := by decide +kernel
def fX10_order (a1 : Int) (a2 : Int) (a3 : Int) (a4 : Int) (s0 : Mem) : Option Res :=
 bnd (fX10_isWithin a1 1 40 s0) (fun r1 s2 =>
 (if r1 = 0 then
 some ((-1), s2)
 else
 bnd (fX10_isWithin a2 0 400 s2) (fun r3 s4 =>
 (if r3 ≠ 0 then
 bnd (fX10_isWithin a3 1 20 s4) (fun r5 s6 =>
 (if r5 = 0 then
 some ((-1), s6)
 else
 bnd (fX10_isWithin a4 0 5 s6) (fun r7 s8 =>
 (if r7 ≠ 0 then
 bnd (fX3_add a1 a2 a3 a4 s8) (fun r9 s10 =>
 (if r9 = 0 then
 some ((-3), s10)
 else
 some (wr ((s10 89 4) - 1), s10)))
 else
 some ((-1), s8)))))
 else
 some ((-1), s4)))))
set_option maxRecDepth 100000 in
set_option maxHeartbeats 4000000 in
theorem mX10_order (l : Launch) (D : va_G) (ad : Nat → Nat) (cA : Nat → ClassId) (a1 : Int) (a2 : Int) (a3 : Int) (a4 : Int) (s0 : Mem) : MCi l D ad cA yX10_order cX10_order 5 (some .int) rmX10_order [.inr (.inr 0), .inl a1, .inl a2, .inl a3, .inl a4] s0 (fX10_order a1 a2 a3 a4 s0) := by
  refine MCi_ofE (own := RX10) (ls := [some (.inr (.inr 0)), some (.inl a1), some (.inl a2), some (.inl a3), some (.inl a4)]) 0 (by decide +kernel) rfl rfl (fun _ => Nat.le_of_ble_eq_true rfl) (fun K hq => ?_)
  unfold fX10_order
  refine j_iload_n dX10_order_0 rfl rfl ?_
  refine j_iconst dX10_order_1 (inr_d rfl) ?_
  refine j_bipush (v := 40) dX10_order_2 (by decide +kernel) (inr_d rfl) ?_
  refine j_callSi (mX10_isWithin (kl K) (kD K) (kad K) (kcA K) a1 1 40 s0) cw_RX10_97 ⟨rfl, rfl, by decide, by decide⟩ rfl rfl (Nat.le_of_ble_eq_true rfl) dX10_order_4 (fun r1 s2 => ?_)
  refine j_if_eq (tgt := 21) dX10_order_7 rfl ?_ ?_
  · refine j_iconst dX10_order_21 (inr_d rfl) ?_
    exact j_iret hq dX10_order_22
  · refine j_iload_n dX10_order_10 rfl rfl ?_
    refine j_iconst dX10_order_11 (inr_d rfl) ?_
    refine j_sipush (v := 400) dX10_order_12 (by decide +kernel) (inr_d rfl) ?_
    refine j_callSi (mX10_isWithin (kl K) (kD K) (kad K) (kcA K) a2 0 400 s2) cw_RX10_97 ⟨rfl, rfl, by decide, by decide⟩ rfl rfl (Nat.le_of_ble_eq_true rfl) dX10_order_15 (fun r3 s4 => ?_)
    refine j_if_ne (tgt := 23) dX10_order_18 rfl ?_ ?_
    · refine j_iload_n dX10_order_23 rfl rfl ?_
      refine j_iconst dX10_order_24 (inr_d rfl) ?_
      refine j_bipush (v := 20) dX10_order_25 (by decide +kernel) (inr_d rfl) ?_
      refine j_callSi (mX10_isWithin (kl K) (kD K) (kad K) (kcA K) a3 1 20 s4) cw_RX10_97 ⟨rfl, rfl, by decide, by decide⟩ rfl rfl (Nat.le_of_ble_eq_true rfl) dX10_order_27 (fun r5 s6 => ?_)
      refine j_if_eq (tgt := 43) dX10_order_30 rfl ?_ ?_
      · refine j_iconst dX10_order_43 (inr_d rfl) ?_
        exact j_iret hq dX10_order_44
      · refine j_iload dX10_order_33 rfl ?_
        refine j_iconst dX10_order_35 (inr_d rfl) ?_
        refine j_iconst dX10_order_36 (inr_d rfl) ?_
        refine j_callSi (mX10_isWithin (kl K) (kD K) (kad K) (kcA K) a4 0 5 s6) cw_RX10_97 ⟨rfl, rfl, by decide, by decide⟩ rfl rfl (Nat.le_of_ble_eq_true rfl) dX10_order_37 (fun r7 s8 => ?_)
        refine j_if_ne (tgt := 45) dX10_order_40 rfl ?_ ?_
        · refine j_aload_n dX10_order_45 rfl rfl ?_
          refine j_getR fl_RX10_79 sh_0 rfl dX10_order_46 ?_
          refine j_iload_n dX10_order_49 rfl rfl ?_
          refine j_iload_n dX10_order_50 rfl rfl ?_
          refine j_iload_n dX10_order_51 rfl rfl ?_
          refine j_iload dX10_order_52 rfl ?_
          refine j_callVi (mX3_add (kl K) (kD K) (kad K) (kcA K) a1 a2 a3 a4 s8) cw_RX10_298 sh_89 rfl ⟨rfl, rfl, by decide, by decide⟩ rfl rfl (Nat.le_of_ble_eq_true rfl) dX10_order_54 (fun r9 s10 => ?_)
          refine j_if_eq (tgt := 72) dX10_order_57 rfl ?_ ?_
          · refine j_bipush (v := (-3)) dX10_order_72 (by decide +kernel) (inr_d rfl) ?_
            exact j_iret hq dX10_order_74
          · refine j_aload_n dX10_order_60 rfl rfl ?_
            refine j_getR fl_RX10_79 sh_0 rfl dX10_order_61 ?_
            refine j_getI fl_RX10_301 sh_89 rfl dX10_order_64 ?_
            refine j_iconst dX10_order_67 (inr_d rfl) ?_
            refine j_isub dX10_order_68 ?_
            refine j_goto (tgt := 74) dX10_order_69 rfl ?_
            exact j_iret hq dX10_order_74
        · refine j_iconst dX10_order_43 (inr_d rfl) ?_
          exact j_iret hq dX10_order_44
    · refine j_iconst dX10_order_21 (inr_d rfl) ?_
      exact j_iret hq dX10_order_22
abbrev rmX10_drop : Room := { frames := 1, cells := 0, slots := 0, locals := 22 }
theorem dX10_drop_0 : decode cX10_drop 0 = .ok (.iload_n 1, 1) := by decide +kernel
theorem dX10_drop_1 : decode cX10_drop 1 = .ok (.iconst 0, 1) := by decide +kernel
theorem dX10_drop_2 : decode cX10_drop 2 = .ok (.aload_n 0, 1) := by decide +kernel
theorem dX10_drop_3 : decode cX10_drop 3 = .ok (.getfield 79, 3) := by decide +kernel
theorem dX10_drop_6 : decode cX10_drop 6 = .ok (.getfield 301, 3) := by decide +kernel
theorem dX10_drop_9 : decode cX10_drop 9 = .ok (.iconst 1, 1) := by decide +kernel
theorem dX10_drop_10 : decode cX10_drop 10 = .ok (.isub, 1) := by decide +kernel
theorem dX10_drop_11 : decode cX10_drop 11 = .ok (.invokestatic 97, 3) := by decide +kernel
theorem dX10_drop_14 : decode cX10_drop 14 = .ok (.ifCond .ne 5, 3) := by decide +kernel
theorem dX10_drop_17 : decode cX10_drop 17 = .ok (.iconst (-1), 1) := by decide +kernel
theorem dX10_drop_18 : decode cX10_drop 18 = .ok (.ireturn, 1) := by decide +kernel
theorem dX10_drop_19 : decode cX10_drop 19 = .ok (.aload_n 0, 1) := by decide +kernel
theorem dX10_drop_20 : decode cX10_drop 20 = .ok (.getfield 79, 3) := by decide +kernel
theorem dX10_drop_23 : decode cX10_drop 23 = .ok (.iload_n 1, 1) := by decide +kernel
theorem dX10_drop_24 : decode cX10_drop 24 = .ok (.invokevirtual 302, 3) := by decide +kernel
theorem dX10_drop_27 : decode cX10_drop 27 = .ok (.aload_n 0, 1) := by decide +kernel
theorem dX10_drop_28 : decode cX10_drop 28 = .ok (.getfield 79, 3) := by decide +kernel
theorem dX10_drop_31 : decode cX10_drop 31 = .ok (.getfield 301, 3) := by decide +kernel
theorem dX10_drop_34 : decode cX10_drop 34 = .ok (.ireturn, 1) := by decide +kernel
def fX10_drop (a1 : Int) (s0 : Mem) : Option Res :=
 bnd (fX10_isWithin a1 0 (wr ((s0 89 4) - 1)) s0) (fun r1 s2 =>
 (if r1 ≠ 0 then
 bnd (fX3_remove a1 s2) (fun _ s4 =>
 some (s4 89 4, s4))
 else
 some ((-1), s2)))
set_option maxRecDepth 100000 in
set_option maxHeartbeats 4000000 in
theorem mX10_drop (l : Launch) (D : va_G) (ad : Nat → Nat) (cA : Nat → ClassId) (a1 : Int) (s0 : Mem) : MCi l D ad cA yX10_drop cX10_drop 2 (some .int) rmX10_drop [.inr (.inr 0), .inl a1] s0 (fX10_drop a1 s0) := by
  refine MCi_ofE (own := RX10) (ls := [some (.inr (.inr 0)), some (.inl a1)]) 0 (by decide +kernel) rfl rfl (fun _ => Nat.le_of_ble_eq_true rfl) (fun K hq => ?_)
  unfold fX10_drop
  refine j_iload_n dX10_drop_0 rfl rfl ?_
  refine j_iconst dX10_drop_1 (inr_d rfl) ?_
  refine j_aload_n dX10_drop_2 rfl rfl ?_
  refine j_getR fl_RX10_79 sh_0 rfl dX10_drop_3 ?_
  refine j_getI fl_RX10_301 sh_89 rfl dX10_drop_6 ?_
  refine j_iconst dX10_drop_9 (inr_d rfl) ?_
  refine j_isub dX10_drop_10 ?_
  refine j_callSi (mX10_isWithin (kl K) (kD K) (kad K) (kcA K) a1 0 (wr ((s0 89 4) - 1)) s0) cw_RX10_97 ⟨rfl, rfl, by decide, by decide⟩ rfl rfl (Nat.le_of_ble_eq_true rfl) dX10_drop_11 (fun r1 s2 => ?_)
  refine j_if_ne (tgt := 19) dX10_drop_14 rfl ?_ ?_
  · refine j_aload_n dX10_drop_19 rfl rfl ?_
    refine j_getR fl_RX10_79 sh_0 rfl dX10_drop_20 ?_
    refine j_iload_n dX10_drop_23 rfl rfl ?_
    refine j_callVv (mX3_remove (kl K) (kD K) (kad K) (kcA K) a1 s2) cw_RX10_302 sh_89 rfl ⟨rfl, rfl, by decide, by decide⟩ rfl rfl (Nat.le_of_ble_eq_true rfl) dX10_drop_24 (fun _ s4 => ?_)
    refine j_aload_n dX10_drop_27 rfl rfl ?_
    refine j_getR fl_RX10_79 sh_0 rfl dX10_drop_28 ?_
    refine j_getI fl_RX10_301 sh_89 rfl dX10_drop_31 ?_
    exact j_iret hq dX10_drop_34
  · refine j_iconst dX10_drop_17 (inr_d rfl) ?_
    exact j_iret hq dX10_drop_18
abbrev rmX10_plan : Room := { frames := 7, cells := 0, slots := 0, locals := 169 }
theorem dX10_plan_0 : decode cX10_plan 0 = .ok (.iload_n 1, 1) := by decide +kernel
theorem dX10_plan_1 : decode cX10_plan 1 = .ok (.bipush 10, 2) := by decide +kernel
theorem dX10_plan_3 : decode cX10_plan 3 = .ok (.bipush 17, 2) := by decide +kernel
theorem dX10_plan_5 : decode cX10_plan 5 = .ok (.invokestatic 97, 3) := by decide +kernel
theorem dX10_plan_8 : decode cX10_plan 8 = .ok (.ifCond .ne 14, 3) := by decide +kernel
theorem dX10_plan_11 : decode cX10_plan 11 = .ok (.iload_n 1, 1) := by decide +kernel
theorem dX10_plan_12 : decode cX10_plan 12 = .ok (.bipush 20, 2) := by decide +kernel
theorem dX10_plan_14 : decode cX10_plan 14 = .ok (.bipush 27, 2) := by decide +kernel
theorem dX10_plan_16 : decode cX10_plan 16 = .ok (.invokestatic 97, 3) := by decide +kernel
theorem dX10_plan_19 : decode cX10_plan 19 = .ok (.ifCond .eq 7, 3) := by decide +kernel
theorem dX10_plan_22 : decode cX10_plan 22 = .ok (.iconst 1, 1) := by decide +kernel
theorem dX10_plan_23 : decode cX10_plan 23 = .ok (.goto 4, 3) := by decide +kernel
theorem dX10_plan_26 : decode cX10_plan 26 = .ok (.iconst 0, 1) := by decide +kernel
theorem dX10_plan_27 : decode cX10_plan 27 = .ok (.istore_n 2, 1) := by decide +kernel
theorem dX10_plan_28 : decode cX10_plan 28 = .ok (.iload_n 1, 1) := by decide +kernel
theorem dX10_plan_29 : decode cX10_plan 29 = .ok (.iconst 0, 1) := by decide +kernel
theorem dX10_plan_30 : decode cX10_plan 30 = .ok (.iconst 3, 1) := by decide +kernel
theorem dX10_plan_31 : decode cX10_plan 31 = .ok (.invokestatic 97, 3) := by decide +kernel
theorem dX10_plan_34 : decode cX10_plan 34 = .ok (.ifCond .ne 9, 3) := by decide +kernel
theorem dX10_plan_37 : decode cX10_plan 37 = .ok (.iload_n 2, 1) := by decide +kernel
theorem dX10_plan_38 : decode cX10_plan 38 = .ok (.ifCond .ne 5, 3) := by decide +kernel
theorem dX10_plan_41 : decode cX10_plan 41 = .ok (.iconst (-1), 1) := by decide +kernel
theorem dX10_plan_42 : decode cX10_plan 42 = .ok (.ireturn, 1) := by decide +kernel
theorem dX10_plan_43 : decode cX10_plan 43 = .ok (.aload_n 0, 1) := by decide +kernel
theorem dX10_plan_44 : decode cX10_plan 44 = .ok (.getfield 86, 3) := by decide +kernel
theorem dX10_plan_47 : decode cX10_plan 47 = .ok (.aload_n 0, 1) := by decide +kernel
theorem dX10_plan_48 : decode cX10_plan 48 = .ok (.getfield 79, 3) := by decide +kernel
theorem dX10_plan_51 : decode cX10_plan 51 = .ok (.invokevirtual 305, 3) := by decide +kernel
theorem dX10_plan_54 : decode cX10_plan 54 = .ok (.iload_n 1, 1) := by decide +kernel
theorem dX10_plan_55 : decode cX10_plan 55 = .ok (.tableswitch 65 0 3 #[29, 37, 45, 55], 29) := by decide +kernel
theorem dX10_plan_84 : decode cX10_plan 84 = .ok (.aload_n 0, 1) := by decide +kernel
theorem dX10_plan_85 : decode cX10_plan 85 = .ok (.getfield 86, 3) := by decide +kernel
theorem dX10_plan_88 : decode cX10_plan 88 = .ok (.getfield 308, 3) := by decide +kernel
theorem dX10_plan_91 : decode cX10_plan 91 = .ok (.ireturn, 1) := by decide +kernel
theorem dX10_plan_92 : decode cX10_plan 92 = .ok (.aload_n 0, 1) := by decide +kernel
theorem dX10_plan_93 : decode cX10_plan 93 = .ok (.getfield 86, 3) := by decide +kernel
theorem dX10_plan_96 : decode cX10_plan 96 = .ok (.getfield 311, 3) := by decide +kernel
theorem dX10_plan_99 : decode cX10_plan 99 = .ok (.ireturn, 1) := by decide +kernel
theorem dX10_plan_100 : decode cX10_plan 100 = .ok (.aload_n 0, 1) := by decide +kernel
theorem dX10_plan_101 : decode cX10_plan 101 = .ok (.getfield 86, 3) := by decide +kernel
theorem dX10_plan_104 : decode cX10_plan 104 = .ok (.getfield 314, 3) := by decide +kernel
theorem dX10_plan_107 : decode cX10_plan 107 = .ok (.iconst 0, 1) := by decide +kernel
theorem dX10_plan_108 : decode cX10_plan 108 = .ok (.iaload, 1) := by decide +kernel
theorem dX10_plan_109 : decode cX10_plan 109 = .ok (.ireturn, 1) := by decide +kernel
theorem dX10_plan_110 : decode cX10_plan 110 = .ok (.aload_n 0, 1) := by decide +kernel
theorem dX10_plan_111 : decode cX10_plan 111 = .ok (.getfield 86, 3) := by decide +kernel
theorem dX10_plan_114 : decode cX10_plan 114 = .ok (.getfield 314, 3) := by decide +kernel
theorem dX10_plan_117 : decode cX10_plan 117 = .ok (.iconst 1, 1) := by decide +kernel
theorem dX10_plan_118 : decode cX10_plan 118 = .ok (.iaload, 1) := by decide +kernel
theorem dX10_plan_119 : decode cX10_plan 119 = .ok (.ireturn, 1) := by decide +kernel
theorem dX10_plan_120 : decode cX10_plan 120 = .ok (.aload_n 0, 1) := by decide +kernel
theorem dX10_plan_121 : decode cX10_plan 121 = .ok (.getfield 86, 3) := by decide +kernel
theorem dX10_plan_124 : decode cX10_plan 124 = .ok (.iload_n 1, 1) := by decide +kernel
theorem dX10_plan_125 : decode cX10_plan 125 = .ok (.bipush 10, 2) := by decide +kernel
theorem dX10_plan_127 : decode cX10_plan 127 = .ok (.idiv, 1) := by decide +kernel
theorem dX10_plan_128 : decode cX10_plan 128 = .ok (.iconst 1, 1) := by decide +kernel
theorem dX10_plan_129 : decode cX10_plan 129 = .ok (.isub, 1) := by decide +kernel
theorem dX10_plan_130 : decode cX10_plan 130 = .ok (.iload_n 1, 1) := by decide +kernel
theorem dX10_plan_131 : decode cX10_plan 131 = .ok (.bipush 10, 2) := by decide +kernel
theorem dX10_plan_133 : decode cX10_plan 133 = .ok (.irem, 1) := by decide +kernel
theorem dX10_plan_134 : decode cX10_plan 134 = .ok (.invokevirtual 317, 3) := by decide +kernel
theorem dX10_plan_137 : decode cX10_plan 137 = .ok (.ireturn, 1) := by decide +kernel
def fX10_plan (a1 : Int) (s0 : Mem) : Option Res :=
 bnd (fX10_isWithin a1 10 17 s0) (fun r1 s2 =>
 jn (fun (u3 : Int) (s4 : Mem) =>
 bnd (fX10_isWithin a1 0 3 s4) (fun r5 s6 =>
 jn (fun (s7 : Mem) =>
 bnd (fX4_solve s7) (fun _ s9 =>
 (if a1 = 0 then
 some (s9 94 5, s9)
 else
 (if a1 = 1 then
 some (s9 94 6, s9)
 else
 (if a1 = 2 then
 rd (s9 99) 0 2 (fun v10 =>
 some (v10, s9))
 else
 (if a1 = 3 then
 rd (s9 99) 1 2 (fun v11 =>
 some (v11, s9))
 else
 bnd (fX4_orderAt (wr ((Int.tdiv a1 10) - 1)) (Int.tmod a1 10) s9) (fun r12 s13 =>
 some (r12, s13)))))))) (fun k43 =>
 (if r5 ≠ 0 then
 k43 s6
 else
 (if u3 ≠ 0 then
 k43 s6
 else
 some ((-1), s6)))))) (fun k27 =>
 (if r1 ≠ 0 then
 k27 1 s2
 else
 bnd (fX10_isWithin a1 20 27 s2) (fun r14 s15 =>
 (if r14 = 0 then
 k27 0 s15
 else
 k27 1 s15)))))
set_option maxRecDepth 100000 in
set_option maxHeartbeats 4000000 in
theorem mX10_plan (l : Launch) (D : va_G) (ad : Nat → Nat) (cA : Nat → ClassId) (a1 : Int) (s0 : Mem) : MCi l D ad cA yX10_plan cX10_plan 3 (some .int) rmX10_plan [.inr (.inr 0), .inl a1] s0 (fX10_plan a1 s0) := by
  refine MCi_ofE (own := RX10) (ls := [some (.inr (.inr 0)), some (.inl a1), none]) 1 (by decide +kernel) rfl rfl (fun _ => Nat.le_of_ble_eq_true rfl) (fun K hq => ?_)
  unfold fX10_plan
  refine j_iload_n dX10_plan_0 rfl rfl ?_
  refine j_bipush (v := 10) dX10_plan_1 (by decide +kernel) (inr_d rfl) ?_
  refine j_bipush (v := 17) dX10_plan_3 (by decide +kernel) (inr_d rfl) ?_
  refine j_callSi (mX10_isWithin (kl K) (kD K) (kad K) (kcA K) a1 10 17 s0) cw_RX10_97 ⟨rfl, rfl, by decide, by decide⟩ rfl rfl (Nat.le_of_ble_eq_true rfl) dX10_plan_5 (fun r1 s2 => ?_)
  refine j_jn (fun k27 => ∀ (u3 : Int) (s4 : Mem), J K rmX10_plan cX10_plan RX10 3 27 [some (.inr (.inr 0)), some (.inl a1), none] [.inl u3] s4 (k27 u3 s4)) (fun u3 s4 => ?_) (fun k27 hk27 => ?_)
  · refine j_istore_nE (ls2 := [some (.inr (.inr 0)), some (.inl a1), some (.inl u3)]) dX10_plan_27 rfl (by decide) rfl rfl ?_
    refine j_iload_n dX10_plan_28 rfl rfl ?_
    refine j_iconst dX10_plan_29 (inr_d rfl) ?_
    refine j_iconst dX10_plan_30 (inr_d rfl) ?_
    refine j_callSi (mX10_isWithin (kl K) (kD K) (kad K) (kcA K) a1 0 3 s4) cw_RX10_97 ⟨rfl, rfl, by decide, by decide⟩ rfl rfl (Nat.le_of_ble_eq_true rfl) dX10_plan_31 (fun r5 s6 => ?_)
    refine j_jn (fun k43 => ∀ (s7 : Mem), J K rmX10_plan cX10_plan RX10 3 43 [some (.inr (.inr 0)), some (.inl a1), none] [] s7 (k43 s7)) (fun s7 => ?_) (fun k43 hk43 => ?_)
    · refine j_aload_n dX10_plan_43 rfl rfl ?_
      refine j_getR fl_RX10_86 sh_0 rfl dX10_plan_44 ?_
      refine j_aload_n dX10_plan_47 rfl rfl ?_
      refine j_getR fl_RX10_79 sh_0 rfl dX10_plan_48 ?_
      refine j_callVv (mX4_solve (kl K) (kD K) (kad K) (kcA K) s7) cw_RX10_305 sh_94 rfl ⟨rfl, rfl, by decide, by decide⟩ rfl rfl (Nat.le_of_ble_eq_true rfl) dX10_plan_51 (fun _ s9 => ?_)
      refine j_iload_n dX10_plan_54 rfl rfl ?_
      refine j_if (fun hc0 => ?_) (fun hc0 => ?_)
      · refine j_tsIn (tgt := 84) 0 hc0 dX10_plan_55 (by decide) (by decide) rfl rfl ?_
        refine j_aload_n dX10_plan_84 rfl rfl ?_
        refine j_getR fl_RX10_86 sh_0 rfl dX10_plan_85 ?_
        refine j_getI fl_RX10_308 sh_94 rfl dX10_plan_88 ?_
        exact j_iret hq dX10_plan_91
      refine j_if (fun hc1 => ?_) (fun hc1 => ?_)
      · refine j_tsIn (tgt := 92) 1 hc1 dX10_plan_55 (by decide) (by decide) rfl rfl ?_
        refine j_aload_n dX10_plan_92 rfl rfl ?_
        refine j_getR fl_RX10_86 sh_0 rfl dX10_plan_93 ?_
        refine j_getI fl_RX10_311 sh_94 rfl dX10_plan_96 ?_
        exact j_iret hq dX10_plan_99
      refine j_if (fun hc2 => ?_) (fun hc2 => ?_)
      · refine j_tsIn (tgt := 100) 2 hc2 dX10_plan_55 (by decide) (by decide) rfl rfl ?_
        refine j_aload_n dX10_plan_100 rfl rfl ?_
        refine j_getR fl_RX10_86 sh_0 rfl dX10_plan_101 ?_
        refine j_getR fl_RX10_314 sh_94 rfl dX10_plan_104 ?_
        refine j_iconst dX10_plan_107 (inr_d rfl) ?_
        refine j_iald sh_99 dX10_plan_108 (fun v10 => ?_)
        exact j_iret hq dX10_plan_109
      refine j_if (fun hc3 => ?_) (fun hc3 => ?_)
      · refine j_tsIn (tgt := 110) 3 hc3 dX10_plan_55 (by decide) (by decide) rfl rfl ?_
        refine j_aload_n dX10_plan_110 rfl rfl ?_
        refine j_getR fl_RX10_86 sh_0 rfl dX10_plan_111 ?_
        refine j_getR fl_RX10_314 sh_94 rfl dX10_plan_114 ?_
        refine j_iconst dX10_plan_117 (inr_d rfl) ?_
        refine j_iald sh_99 dX10_plan_118 (fun v11 => ?_)
        exact j_iret hq dX10_plan_119
      refine j_tsOut (tgt := 120) dX10_plan_55 (by omega) rfl ?_
      refine j_aload_n dX10_plan_120 rfl rfl ?_
      refine j_getR fl_RX10_86 sh_0 rfl dX10_plan_121 ?_
      refine j_iload_n dX10_plan_124 rfl rfl ?_
      refine j_bipush (v := 10) dX10_plan_125 (by decide +kernel) (inr_d rfl) ?_
      refine j_idiv_p dX10_plan_127 (by decide) ?_
      refine j_iconst dX10_plan_128 (inr_d rfl) ?_
      refine j_isub dX10_plan_129 ?_
      refine j_iload_n dX10_plan_130 rfl rfl ?_
      refine j_bipush (v := 10) dX10_plan_131 (by decide +kernel) (inr_d rfl) ?_
      refine j_irem_p dX10_plan_133 (by decide) ?_
      refine j_callVi (mX4_orderAt (kl K) (kD K) (kad K) (kcA K) (wr ((Int.tdiv a1 10) - 1)) (Int.tmod a1 10) s9) cw_RX10_317 sh_94 rfl ⟨rfl, rfl, by decide, by decide⟩ rfl rfl (Nat.le_of_ble_eq_true rfl) dX10_plan_134 (fun r12 s13 => ?_)
      exact j_iret hq dX10_plan_137
    refine j_if_ne (tgt := 43) dX10_plan_34 rfl ?_ ?_
    · exact j_msk [true, true, false] (hk43 _)
    · refine j_iload_n dX10_plan_37 rfl rfl ?_
      refine j_if_ne (tgt := 43) dX10_plan_38 rfl ?_ ?_
      · exact j_msk [true, true, false] (hk43 _)
      · refine j_iconst dX10_plan_41 (inr_d rfl) ?_
        exact j_iret hq dX10_plan_42
  refine j_if_ne (tgt := 22) dX10_plan_8 rfl ?_ ?_
  · refine j_iconst dX10_plan_22 (inr_d rfl) ?_
    refine j_goto (tgt := 27) dX10_plan_23 rfl ?_
    exact j_msk [true, true, false] (hk27 _ _)
  · refine j_iload_n dX10_plan_11 rfl rfl ?_
    refine j_bipush (v := 20) dX10_plan_12 (by decide +kernel) (inr_d rfl) ?_
    refine j_bipush (v := 27) dX10_plan_14 (by decide +kernel) (inr_d rfl) ?_
    refine j_callSi (mX10_isWithin (kl K) (kD K) (kad K) (kcA K) a1 20 27 s2) cw_RX10_97 ⟨rfl, rfl, by decide, by decide⟩ rfl rfl (Nat.le_of_ble_eq_true rfl) dX10_plan_16 (fun r14 s15 => ?_)
    refine j_if_eq (tgt := 26) dX10_plan_19 rfl ?_ ?_
    · refine j_iconst dX10_plan_26 (inr_d rfl) ?_
      exact j_msk [true, true, false] (hk27 _ _)
    · refine j_iconst dX10_plan_22 (inr_d rfl) ?_
      refine j_goto (tgt := 27) dX10_plan_23 rfl ?_
      exact j_msk [true, true, false] (hk27 _ _)
abbrev rmX10_keep : Room := { frames := 4, cells := 0, slots := 0, locals := 124 }
theorem dX10_keep_0 : decode cX10_keep 0 = .ok (.aload_n 0, 1) := by decide +kernel
theorem dX10_keep_1 : decode cX10_keep 1 = .ok (.getfield 320, 3) := by decide +kernel
theorem dX10_keep_4 : decode cX10_keep 4 = .ok (.iconst 2, 1) := by decide +kernel
theorem dX10_keep_5 : decode cX10_keep 5 = .ok (.if_icmp .lt 6, 3) := by decide +kernel
theorem dX10_keep_8 : decode cX10_keep 8 = .ok (.bipush (-3), 2) := by decide +kernel
theorem dX10_keep_10 : decode cX10_keep 10 = .ok (.ireturn, 1) := by decide +kernel
theorem dX10_keep_11 : decode cX10_keep 11 = .ok (.aload_n 0, 1) := by decide +kernel
theorem dX10_keep_12 : decode cX10_keep 12 = .ok (.getfield 320, 3) := by decide +kernel
theorem dX10_keep_15 : decode cX10_keep 15 = .ok (.ifCond .ne 10, 3) := by decide +kernel
theorem dX10_keep_18 : decode cX10_keep 18 = .ok (.aload_n 0, 1) := by decide +kernel
theorem dX10_keep_19 : decode cX10_keep 19 = .ok (.getfield 49, 3) := by decide +kernel
theorem dX10_keep_22 : decode cX10_keep 22 = .ok (.goto 7, 3) := by decide +kernel
theorem dX10_keep_25 : decode cX10_keep 25 = .ok (.aload_n 0, 1) := by decide +kernel
theorem dX10_keep_26 : decode cX10_keep 26 = .ok (.getfield 52, 3) := by decide +kernel
theorem dX10_keep_29 : decode cX10_keep 29 = .ok (.aload_n 0, 1) := by decide +kernel
theorem dX10_keep_30 : decode cX10_keep 30 = .ok (.getfield 45, 3) := by decide +kernel
theorem dX10_keep_33 : decode cX10_keep 33 = .ok (.invokevirtual 323, 3) := by decide +kernel
theorem dX10_keep_36 : decode cX10_keep 36 = .ok (.aload_n 0, 1) := by decide +kernel
theorem dX10_keep_37 : decode cX10_keep 37 = .ok (.dup, 1) := by decide +kernel
theorem dX10_keep_38 : decode cX10_keep 38 = .ok (.getfield 320, 3) := by decide +kernel
theorem dX10_keep_41 : decode cX10_keep 41 = .ok (.iconst 1, 1) := by decide +kernel
theorem dX10_keep_42 : decode cX10_keep 42 = .ok (.iadd, 1) := by decide +kernel
theorem dX10_keep_43 : decode cX10_keep 43 = .ok (.putfield 320, 3) := by decide +kernel
theorem dX10_keep_46 : decode cX10_keep 46 = .ok (.aload_n 0, 1) := by decide +kernel
theorem dX10_keep_47 : decode cX10_keep 47 = .ok (.getfield 320, 3) := by decide +kernel
theorem dX10_keep_50 : decode cX10_keep 50 = .ok (.ireturn, 1) := by decide +kernel
def fX10_keep (s0 : Mem) : Option Res :=
 (if s0 0 12 < 2 then
 (if s0 0 12 ≠ 0 then
 bnd (fX2_copyFrom 58 20 s0) (fun _ s2 =>
 lt (up s2 0 12 (wr ((s2 0 12) + 1))) (fun s3 =>
 some (s3 0 12, s3)))
 else
 bnd (fX2_copyFrom 39 20 s0) (fun _ s5 =>
 lt (up s5 0 12 (wr ((s5 0 12) + 1))) (fun s6 =>
 some (s6 0 12, s6))))
 else
 some ((-3), s0))
set_option maxRecDepth 100000 in
set_option maxHeartbeats 4000000 in
theorem mX10_keep (l : Launch) (D : va_G) (ad : Nat → Nat) (cA : Nat → ClassId) (s0 : Mem) : MCi l D ad cA yX10_keep cX10_keep 1 (some .int) rmX10_keep [.inr (.inr 0)] s0 (fX10_keep s0) := by
  refine MCi_ofE (own := RX10) (ls := [some (.inr (.inr 0))]) 0 (by decide +kernel) rfl rfl (fun _ => Nat.le_of_ble_eq_true rfl) (fun K hq => ?_)
  unfold fX10_keep
  refine j_aload_n dX10_keep_0 rfl rfl ?_
  refine j_getI fl_RX10_320 sh_0 rfl dX10_keep_1 ?_
  refine j_iconst dX10_keep_4 (inr_d rfl) ?_
  refine j_icmp_lt (tgt := 11) dX10_keep_5 rfl ?_ ?_
  · refine j_aload_n dX10_keep_11 rfl rfl ?_
    refine j_getI fl_RX10_320 sh_0 rfl dX10_keep_12 ?_
    refine j_if_ne (tgt := 25) dX10_keep_15 rfl ?_ ?_
    · refine j_aload_n dX10_keep_25 rfl rfl ?_
      refine j_getR fl_RX10_52 sh_0 rfl dX10_keep_26 ?_
      refine j_aload_n dX10_keep_29 rfl rfl ?_
      refine j_getR fl_RX10_45 sh_0 rfl dX10_keep_30 ?_
      refine j_callVv (mX2_copyFrom (kl K) (kD K) (kad K) (kcA K) 58 isJo_58 20 isJo_20 s0) cw_RX10_323 sh_58 rfl ⟨rfl, rfl, by decide, by decide⟩ rfl rfl (Nat.le_of_ble_eq_true rfl) dX10_keep_33 (fun _ s2 => ?_)
      refine j_aload_n dX10_keep_36 rfl rfl ?_
      refine j_dup rfl dX10_keep_37 ?_
      refine j_getI fl_RX10_320 sh_0 rfl dX10_keep_38 ?_
      refine j_iconst dX10_keep_41 (inr_d rfl) ?_
      refine j_iadd dX10_keep_42 ?_
      refine j_putI fp_RX10_320 sh_0 rfl dX10_keep_43 (fun s3 => ?_)
      refine j_aload_n dX10_keep_46 rfl rfl ?_
      refine j_getI fl_RX10_320 sh_0 rfl dX10_keep_47 ?_
      exact j_iret hq dX10_keep_50
    · refine j_aload_n dX10_keep_18 rfl rfl ?_
      refine j_getR fl_RX10_49 sh_0 rfl dX10_keep_19 ?_
      refine j_goto (tgt := 29) dX10_keep_22 rfl ?_
      refine j_aload_n dX10_keep_29 rfl rfl ?_
      refine j_getR fl_RX10_45 sh_0 rfl dX10_keep_30 ?_
      refine j_callVv (mX2_copyFrom (kl K) (kD K) (kad K) (kcA K) 39 isJo_39 20 isJo_20 s0) cw_RX10_323 sh_39 rfl ⟨rfl, rfl, by decide, by decide⟩ rfl rfl (Nat.le_of_ble_eq_true rfl) dX10_keep_33 (fun _ s5 => ?_)
      refine j_aload_n dX10_keep_36 rfl rfl ?_
      refine j_dup rfl dX10_keep_37 ?_
      refine j_getI fl_RX10_320 sh_0 rfl dX10_keep_38 ?_
      refine j_iconst dX10_keep_41 (inr_d rfl) ?_
      refine j_iadd dX10_keep_42 ?_
      refine j_putI fp_RX10_320 sh_0 rfl dX10_keep_43 (fun s6 => ?_)
      refine j_aload_n dX10_keep_46 rfl rfl ?_
      refine j_getI fl_RX10_320 sh_0 rfl dX10_keep_47 ?_
      exact j_iret hq dX10_keep_50
  · refine j_bipush (v := (-3)) dX10_keep_8 (by decide +kernel) (inr_d rfl) ?_
    exact j_iret hq dX10_keep_10
abbrev rmX10_back : Room := { frames := 4, cells := 0, slots := 0, locals := 124 }
theorem dX10_back_0 : decode cX10_back 0 = .ok (.aload_n 0, 1) := by decide +kernel
theorem dX10_back_1 : decode cX10_back 1 = .ok (.getfield 320, 3) := by decide +kernel
theorem dX10_back_4 : decode cX10_back 4 = .ok (.ifCond .gt 6, 3) := by decide +kernel
theorem dX10_back_7 : decode cX10_back 7 = .ok (.bipush (-2), 2) := by decide +kernel
theorem dX10_back_9 : decode cX10_back 9 = .ok (.ireturn, 1) := by decide +kernel
theorem dX10_back_10 : decode cX10_back 10 = .ok (.aload_n 0, 1) := by decide +kernel
theorem dX10_back_11 : decode cX10_back 11 = .ok (.dup, 1) := by decide +kernel
theorem dX10_back_12 : decode cX10_back 12 = .ok (.getfield 320, 3) := by decide +kernel
theorem dX10_back_15 : decode cX10_back 15 = .ok (.iconst 1, 1) := by decide +kernel
theorem dX10_back_16 : decode cX10_back 16 = .ok (.isub, 1) := by decide +kernel
theorem dX10_back_17 : decode cX10_back 17 = .ok (.putfield 320, 3) := by decide +kernel
theorem dX10_back_20 : decode cX10_back 20 = .ok (.aload_n 0, 1) := by decide +kernel
theorem dX10_back_21 : decode cX10_back 21 = .ok (.getfield 45, 3) := by decide +kernel
theorem dX10_back_24 : decode cX10_back 24 = .ok (.aload_n 0, 1) := by decide +kernel
theorem dX10_back_25 : decode cX10_back 25 = .ok (.getfield 320, 3) := by decide +kernel
theorem dX10_back_28 : decode cX10_back 28 = .ok (.ifCond .ne 10, 3) := by decide +kernel
theorem dX10_back_31 : decode cX10_back 31 = .ok (.aload_n 0, 1) := by decide +kernel
theorem dX10_back_32 : decode cX10_back 32 = .ok (.getfield 49, 3) := by decide +kernel
theorem dX10_back_35 : decode cX10_back 35 = .ok (.goto 7, 3) := by decide +kernel
theorem dX10_back_38 : decode cX10_back 38 = .ok (.aload_n 0, 1) := by decide +kernel
theorem dX10_back_39 : decode cX10_back 39 = .ok (.getfield 52, 3) := by decide +kernel
theorem dX10_back_42 : decode cX10_back 42 = .ok (.invokevirtual 323, 3) := by decide +kernel
theorem dX10_back_45 : decode cX10_back 45 = .ok (.aload_n 0, 1) := by decide +kernel
theorem dX10_back_46 : decode cX10_back 46 = .ok (.getfield 320, 3) := by decide +kernel
theorem dX10_back_49 : decode cX10_back 49 = .ok (.ireturn, 1) := by decide +kernel
def fX10_back (s0 : Mem) : Option Res :=
 (if 0 < s0 0 12 then
 lt (up s0 0 12 (wr ((s0 0 12) - 1))) (fun s1 =>
 (if s1 0 12 ≠ 0 then
 bnd (fX2_copyFrom 20 58 s1) (fun _ s3 =>
 some (s3 0 12, s3))
 else
 bnd (fX2_copyFrom 20 39 s1) (fun _ s5 =>
 some (s5 0 12, s5))))
 else
 some ((-2), s0))
set_option maxRecDepth 100000 in
set_option maxHeartbeats 4000000 in
theorem mX10_back (l : Launch) (D : va_G) (ad : Nat → Nat) (cA : Nat → ClassId) (s0 : Mem) : MCi l D ad cA yX10_back cX10_back 1 (some .int) rmX10_back [.inr (.inr 0)] s0 (fX10_back s0) := by
  refine MCi_ofE (own := RX10) (ls := [some (.inr (.inr 0))]) 0 (by decide +kernel) rfl rfl (fun _ => Nat.le_of_ble_eq_true rfl) (fun K hq => ?_)
  unfold fX10_back
  refine j_aload_n dX10_back_0 rfl rfl ?_
  refine j_getI fl_RX10_320 sh_0 rfl dX10_back_1 ?_
  refine j_if_gt (tgt := 10) dX10_back_4 rfl ?_ ?_
  · refine j_aload_n dX10_back_10 rfl rfl ?_
    refine j_dup rfl dX10_back_11 ?_
    refine j_getI fl_RX10_320 sh_0 rfl dX10_back_12 ?_
    refine j_iconst dX10_back_15 (inr_d rfl) ?_
    refine j_isub dX10_back_16 ?_
    refine j_putI fp_RX10_320 sh_0 rfl dX10_back_17 (fun s1 => ?_)
    refine j_aload_n dX10_back_20 rfl rfl ?_
    refine j_getR fl_RX10_45 sh_0 rfl dX10_back_21 ?_
    refine j_aload_n dX10_back_24 rfl rfl ?_
    refine j_getI fl_RX10_320 sh_0 rfl dX10_back_25 ?_
    refine j_if_ne (tgt := 38) dX10_back_28 rfl ?_ ?_
    · refine j_aload_n dX10_back_38 rfl rfl ?_
      refine j_getR fl_RX10_52 sh_0 rfl dX10_back_39 ?_
      refine j_callVv (mX2_copyFrom (kl K) (kD K) (kad K) (kcA K) 20 isJo_20 58 isJo_58 s1) cw_RX10_323 sh_20 rfl ⟨rfl, rfl, by decide, by decide⟩ rfl rfl (Nat.le_of_ble_eq_true rfl) dX10_back_42 (fun _ s3 => ?_)
      refine j_aload_n dX10_back_45 rfl rfl ?_
      refine j_getI fl_RX10_320 sh_0 rfl dX10_back_46 ?_
      exact j_iret hq dX10_back_49
    · refine j_aload_n dX10_back_31 rfl rfl ?_
      refine j_getR fl_RX10_49 sh_0 rfl dX10_back_32 ?_
      refine j_goto (tgt := 42) dX10_back_35 rfl ?_
      refine j_callVv (mX2_copyFrom (kl K) (kD K) (kad K) (kcA K) 20 isJo_20 39 isJo_39 s1) cw_RX10_323 sh_20 rfl ⟨rfl, rfl, by decide, by decide⟩ rfl rfl (Nat.le_of_ble_eq_true rfl) dX10_back_42 (fun _ s5 => ?_)
      refine j_aload_n dX10_back_45 rfl rfl ?_
      refine j_getI fl_RX10_320 sh_0 rfl dX10_back_46 ?_
      exact j_iret hq dX10_back_49
  · refine j_bipush (v := (-2)) dX10_back_7 (by decide +kernel) (inr_d rfl) ?_
    exact j_iret hq dX10_back_9
abbrev rmX10_count : Room := { frames := 4, cells := 0, slots := 0, locals := 86 }
theorem dX10_count_0 : decode cX10_count 0 = .ok (.iload_n 1, 1) := by decide +kernel
theorem dX10_count_1 : decode cX10_count 1 = .ok (.tableswitch 96 0 6 #[43, 51, 59, 70, 78, 86, 91], 43) := by decide +kernel
theorem dX10_count_44 : decode cX10_count 44 = .ok (.aload_n 0, 1) := by decide +kernel
theorem dX10_count_45 : decode cX10_count 45 = .ok (.getfield 31, 3) := by decide +kernel
theorem dX10_count_48 : decode cX10_count 48 = .ok (.getfield 156, 3) := by decide +kernel
theorem dX10_count_51 : decode cX10_count 51 = .ok (.ireturn, 1) := by decide +kernel
theorem dX10_count_52 : decode cX10_count 52 = .ok (.aload_n 0, 1) := by decide +kernel
theorem dX10_count_53 : decode cX10_count 53 = .ok (.getfield 72, 3) := by decide +kernel
theorem dX10_count_56 : decode cX10_count 56 = .ok (.getfield 229, 3) := by decide +kernel
theorem dX10_count_59 : decode cX10_count 59 = .ok (.ireturn, 1) := by decide +kernel
theorem dX10_count_60 : decode cX10_count 60 = .ok (.aload_n 0, 1) := by decide +kernel
theorem dX10_count_61 : decode cX10_count 61 = .ok (.getfield 45, 3) := by decide +kernel
theorem dX10_count_64 : decode cX10_count 64 = .ok (.getfield 248, 3) := by decide +kernel
theorem dX10_count_67 : decode cX10_count 67 = .ok (.invokevirtual 327, 3) := by decide +kernel
theorem dX10_count_70 : decode cX10_count 70 = .ok (.ireturn, 1) := by decide +kernel
theorem dX10_count_71 : decode cX10_count 71 = .ok (.aload_n 0, 1) := by decide +kernel
theorem dX10_count_72 : decode cX10_count 72 = .ok (.getfield 79, 3) := by decide +kernel
theorem dX10_count_75 : decode cX10_count 75 = .ok (.getfield 301, 3) := by decide +kernel
theorem dX10_count_78 : decode cX10_count 78 = .ok (.ireturn, 1) := by decide +kernel
theorem dX10_count_79 : decode cX10_count 79 = .ok (.aload_n 0, 1) := by decide +kernel
theorem dX10_count_80 : decode cX10_count 80 = .ok (.getfield 45, 3) := by decide +kernel
theorem dX10_count_83 : decode cX10_count 83 = .ok (.invokevirtual 283, 3) := by decide +kernel
theorem dX10_count_86 : decode cX10_count 86 = .ok (.ireturn, 1) := by decide +kernel
theorem dX10_count_87 : decode cX10_count 87 = .ok (.aload_n 0, 1) := by decide +kernel
theorem dX10_count_88 : decode cX10_count 88 = .ok (.getfield 320, 3) := by decide +kernel
theorem dX10_count_91 : decode cX10_count 91 = .ok (.ireturn, 1) := by decide +kernel
theorem dX10_count_92 : decode cX10_count 92 = .ok (.aload_n 0, 1) := by decide +kernel
theorem dX10_count_93 : decode cX10_count 93 = .ok (.getfield 292, 3) := by decide +kernel
theorem dX10_count_96 : decode cX10_count 96 = .ok (.ireturn, 1) := by decide +kernel
theorem dX10_count_97 : decode cX10_count 97 = .ok (.iconst (-1), 1) := by decide +kernel
theorem dX10_count_98 : decode cX10_count 98 = .ok (.ireturn, 1) := by decide +kernel
def fX10_count (a1 : Int) (s0 : Mem) : Option Res :=
 (if a1 = 0 then
 some (s0 8 1, s0)
 else
 (if a1 = 1 then
 some (s0 83 3, s0)
 else
 (if a1 = 2 then
 bnd (fX5_countTold 34 s0) (fun r1 s2 =>
 some (r1, s2))
 else
 (if a1 = 3 then
 some (s0 89 4, s0)
 else
 (if a1 = 4 then
 bnd (fX2_countOpen 20 s0) (fun r3 s4 =>
 some (r3, s4))
 else
 (if a1 = 5 then
 some (s0 0 12, s0)
 else
 (if a1 = 6 then
 some (s0 0 13, s0)
 else
 some ((-1), s0))))))))
set_option maxRecDepth 100000 in
set_option maxHeartbeats 4000000 in
theorem mX10_count (l : Launch) (D : va_G) (ad : Nat → Nat) (cA : Nat → ClassId) (a1 : Int) (s0 : Mem) : MCi l D ad cA yX10_count cX10_count 2 (some .int) rmX10_count [.inr (.inr 0), .inl a1] s0 (fX10_count a1 s0) := by
  refine MCi_ofE (own := RX10) (ls := [some (.inr (.inr 0)), some (.inl a1)]) 0 (by decide +kernel) rfl rfl (fun _ => Nat.le_of_ble_eq_true rfl) (fun K hq => ?_)
  unfold fX10_count
  refine j_iload_n dX10_count_0 rfl rfl ?_
  refine j_if (fun hc0 => ?_) (fun hc0 => ?_)
  · refine j_tsIn (tgt := 44) 0 hc0 dX10_count_1 (by decide) (by decide) rfl rfl ?_
    refine j_aload_n dX10_count_44 rfl rfl ?_
    refine j_getR fl_RX10_31 sh_0 rfl dX10_count_45 ?_
    refine j_getI fl_RX10_156 sh_8 rfl dX10_count_48 ?_
    exact j_iret hq dX10_count_51
  refine j_if (fun hc1 => ?_) (fun hc1 => ?_)
  · refine j_tsIn (tgt := 52) 1 hc1 dX10_count_1 (by decide) (by decide) rfl rfl ?_
    refine j_aload_n dX10_count_52 rfl rfl ?_
    refine j_getR fl_RX10_72 sh_0 rfl dX10_count_53 ?_
    refine j_getI fl_RX10_229 sh_83 rfl dX10_count_56 ?_
    exact j_iret hq dX10_count_59
  refine j_if (fun hc2 => ?_) (fun hc2 => ?_)
  · refine j_tsIn (tgt := 60) 2 hc2 dX10_count_1 (by decide) (by decide) rfl rfl ?_
    refine j_aload_n dX10_count_60 rfl rfl ?_
    refine j_getR fl_RX10_45 sh_0 rfl dX10_count_61 ?_
    refine j_getR fl_RX10_248 sh_20 rfl dX10_count_64 ?_
    refine j_callVi (mX5_countTold (kl K) (kD K) (kad K) (kcA K) 34 isRe_34 s0) cw_RX10_327 sh_34 rfl ⟨rfl, rfl, by decide, by decide⟩ rfl rfl (Nat.le_of_ble_eq_true rfl) dX10_count_67 (fun r1 s2 => ?_)
    exact j_iret hq dX10_count_70
  refine j_if (fun hc3 => ?_) (fun hc3 => ?_)
  · refine j_tsIn (tgt := 71) 3 hc3 dX10_count_1 (by decide) (by decide) rfl rfl ?_
    refine j_aload_n dX10_count_71 rfl rfl ?_
    refine j_getR fl_RX10_79 sh_0 rfl dX10_count_72 ?_
    refine j_getI fl_RX10_301 sh_89 rfl dX10_count_75 ?_
    exact j_iret hq dX10_count_78
  refine j_if (fun hc4 => ?_) (fun hc4 => ?_)
  · refine j_tsIn (tgt := 79) 4 hc4 dX10_count_1 (by decide) (by decide) rfl rfl ?_
    refine j_aload_n dX10_count_79 rfl rfl ?_
    refine j_getR fl_RX10_45 sh_0 rfl dX10_count_80 ?_
    refine j_callVi (mX2_countOpen (kl K) (kD K) (kad K) (kcA K) 20 isJo_20 s0) cw_RX10_283 sh_20 rfl ⟨rfl, rfl, by decide, by decide⟩ rfl rfl (Nat.le_of_ble_eq_true rfl) dX10_count_83 (fun r3 s4 => ?_)
    exact j_iret hq dX10_count_86
  refine j_if (fun hc5 => ?_) (fun hc5 => ?_)
  · refine j_tsIn (tgt := 87) 5 hc5 dX10_count_1 (by decide) (by decide) rfl rfl ?_
    refine j_aload_n dX10_count_87 rfl rfl ?_
    refine j_getI fl_RX10_320 sh_0 rfl dX10_count_88 ?_
    exact j_iret hq dX10_count_91
  refine j_if (fun hc6 => ?_) (fun hc6 => ?_)
  · refine j_tsIn (tgt := 92) 6 hc6 dX10_count_1 (by decide) (by decide) rfl rfl ?_
    refine j_aload_n dX10_count_92 rfl rfl ?_
    refine j_getI fl_RX10_292 sh_0 rfl dX10_count_93 ?_
    exact j_iret hq dX10_count_96
  refine j_tsOut (tgt := 97) dX10_count_1 (by omega) rfl ?_
  refine j_iconst dX10_count_97 (inr_d rfl) ?_
  exact j_iret hq dX10_count_98
