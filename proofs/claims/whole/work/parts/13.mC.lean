abbrev rmX8_takesShot : Room := { frames := 2, cells := 0, slots := 0, locals := 48 }
theorem dX8_takesShot_0 : decode cX8_takesShot 0 = .ok (.aload_n 0, 1) := by decide +kernel
theorem dX8_takesShot_1 : decode cX8_takesShot 1 = .ok (.getfield 49, 3) := by decide +kernel
theorem dX8_takesShot_4 : decode cX8_takesShot 4 = .ok (.iconst 5, 1) := by decide +kernel
theorem dX8_takesShot_5 : decode cX8_takesShot 5 = .ok (.if_icmp .ne 25, 3) := by decide +kernel
theorem dX8_takesShot_8 : decode cX8_takesShot 8 = .ok (.aload_n 0, 1) := by decide +kernel
theorem dX8_takesShot_9 : decode cX8_takesShot 9 = .ok (.getfield 15, 3) := by decide +kernel
theorem dX8_takesShot_12 : decode cX8_takesShot 12 = .ok (.iconst 0, 1) := by decide +kernel
theorem dX8_takesShot_13 : decode cX8_takesShot 13 = .ok (.iaload, 1) := by decide +kernel
theorem dX8_takesShot_14 : decode cX8_takesShot 14 = .ok (.aload_n 1, 1) := by decide +kernel
theorem dX8_takesShot_15 : decode cX8_takesShot 15 = .ok (.getfield 52, 3) := by decide +kernel
theorem dX8_takesShot_18 : decode cX8_takesShot 18 = .ok (.if_icmp .ne 12, 3) := by decide +kernel
theorem dX8_takesShot_21 : decode cX8_takesShot 21 = .ok (.aload_n 1, 1) := by decide +kernel
theorem dX8_takesShot_22 : decode cX8_takesShot 22 = .ok (.getfield 52, 3) := by decide +kernel
theorem dX8_takesShot_25 : decode cX8_takesShot 25 = .ok (.bipush 16, 2) := by decide +kernel
theorem dX8_takesShot_27 : decode cX8_takesShot 27 = .ok (.if_icmp .lt 5, 3) := by decide +kernel
theorem dX8_takesShot_30 : decode cX8_takesShot 30 = .ok (.iconst 0, 1) := by decide +kernel
theorem dX8_takesShot_31 : decode cX8_takesShot 31 = .ok (.ireturn, 1) := by decide +kernel
theorem dX8_takesShot_32 : decode cX8_takesShot 32 = .ok (.aload_n 0, 1) := by decide +kernel
theorem dX8_takesShot_33 : decode cX8_takesShot 33 = .ok (.getfield 15, 3) := by decide +kernel
theorem dX8_takesShot_36 : decode cX8_takesShot 36 = .ok (.iconst 1, 1) := by decide +kernel
theorem dX8_takesShot_37 : decode cX8_takesShot 37 = .ok (.iaload, 1) := by decide +kernel
theorem dX8_takesShot_38 : decode cX8_takesShot 38 = .ok (.iconst 1, 1) := by decide +kernel
theorem dX8_takesShot_39 : decode cX8_takesShot 39 = .ok (.sipush 400, 3) := by decide +kernel
theorem dX8_takesShot_42 : decode cX8_takesShot 42 = .ok (.invokestatic 55, 3) := by decide +kernel
theorem dX8_takesShot_45 : decode cX8_takesShot 45 = .ok (.ifCond .eq 11, 3) := by decide +kernel
theorem dX8_takesShot_48 : decode cX8_takesShot 48 = .ok (.aload_n 0, 1) := by decide +kernel
theorem dX8_takesShot_49 : decode cX8_takesShot 49 = .ok (.iconst 2, 1) := by decide +kernel
theorem dX8_takesShot_50 : decode cX8_takesShot 50 = .ok (.invokevirtual 59, 3) := by decide +kernel
theorem dX8_takesShot_53 : decode cX8_takesShot 53 = .ok (.ifCond .ne 5, 3) := by decide +kernel
theorem dX8_takesShot_56 : decode cX8_takesShot 56 = .ok (.iconst 0, 1) := by decide +kernel
theorem dX8_takesShot_57 : decode cX8_takesShot 57 = .ok (.ireturn, 1) := by decide +kernel
theorem dX8_takesShot_58 : decode cX8_takesShot 58 = .ok (.aload_n 1, 1) := by decide +kernel
theorem dX8_takesShot_59 : decode cX8_takesShot 59 = .ok (.aload_n 0, 1) := by decide +kernel
theorem dX8_takesShot_60 : decode cX8_takesShot 60 = .ok (.getfield 15, 3) := by decide +kernel
theorem dX8_takesShot_63 : decode cX8_takesShot 63 = .ok (.iconst 1, 1) := by decide +kernel
theorem dX8_takesShot_64 : decode cX8_takesShot 64 = .ok (.iaload, 1) := by decide +kernel
theorem dX8_takesShot_65 : decode cX8_takesShot 65 = .ok (.aload_n 0, 1) := by decide +kernel
theorem dX8_takesShot_66 : decode cX8_takesShot 66 = .ok (.getfield 15, 3) := by decide +kernel
theorem dX8_takesShot_69 : decode cX8_takesShot 69 = .ok (.iconst 2, 1) := by decide +kernel
theorem dX8_takesShot_70 : decode cX8_takesShot 70 = .ok (.iaload, 1) := by decide +kernel
theorem dX8_takesShot_71 : decode cX8_takesShot 71 = .ok (.aload_n 0, 1) := by decide +kernel
theorem dX8_takesShot_72 : decode cX8_takesShot 72 = .ok (.getfield 15, 3) := by decide +kernel
theorem dX8_takesShot_75 : decode cX8_takesShot 75 = .ok (.iconst 3, 1) := by decide +kernel
theorem dX8_takesShot_76 : decode cX8_takesShot 76 = .ok (.iaload, 1) := by decide +kernel
theorem dX8_takesShot_77 : decode cX8_takesShot 77 = .ok (.aload_n 0, 1) := by decide +kernel
theorem dX8_takesShot_78 : decode cX8_takesShot 78 = .ok (.getfield 15, 3) := by decide +kernel
theorem dX8_takesShot_81 : decode cX8_takesShot 81 = .ok (.iconst 4, 1) := by decide +kernel
theorem dX8_takesShot_82 : decode cX8_takesShot 82 = .ok (.iaload, 1) := by decide +kernel
theorem dX8_takesShot_83 : decode cX8_takesShot 83 = .ok (.invokevirtual 63, 3) := by decide +kernel
theorem dX8_takesShot_86 : decode cX8_takesShot 86 = .ok (.iconst 1, 1) := by decide +kernel
theorem dX8_takesShot_87 : decode cX8_takesShot 87 = .ok (.ireturn, 1) := by decide +kernel
def fX8_takesShot (t1 : Nat) (s0 : Mem) : Option Res :=
 (if s0 8 3 ≠ 5 then
 zr 0 s0
 else
 rd (s0 10) 0 5 (fun v1 =>
 (if v1 ≠ s0 t1 0 then
 zr 0 s0
 else
 (if s0 t1 0 < 16 then
 rd (s0 10) 1 5 (fun v2 =>
 bnd (fX10_isWithin v2 1 400 s0) (fun r3 s4 =>
 (if r3 = 0 then
 zr 0 s4
 else
 bnd (fX8_areLights 2 s4) (fun r5 s6 =>
 (if r5 ≠ 0 then
 rd (s6 10) 1 5 (fun v7 =>
 rd (s6 10) 2 5 (fun v8 =>
 rd (s6 10) 3 5 (fun v9 =>
 rd (s6 10) 4 5 (fun v10 =>
 bnd (fX6_addShot t1 v7 v8 v9 v10 s6) (fun _ s12 =>
 zr 1 s12)))))
 else
 zr 0 s6)))))
 else
 zr 0 s0))))
set_option maxRecDepth 100000 in
set_option maxHeartbeats 4000000 in
theorem mX8_takesShot (l : Launch) (D : va_G) (ad : Nat → Nat) (cA : Nat → ClassId) (t1 : Nat) (h1 : isSc t1) (s0 : Mem) : MCi l D ad cA yX8_takesShot cX8_takesShot 2 (some .boolean) rmX8_takesShot [.inr (.inr 8), .inr (.inr t1)] s0 (fX8_takesShot t1 s0) := by
  refine MCi_ofE (own := RX8) (ls := [some (.inr (.inr 8)), some (.inr (.inr t1))]) 0 (by decide +kernel) rfl rfl (fun _ => Nat.le_of_ble_eq_true rfl) (fun K hq => ?_)
  unfold fX8_takesShot
  refine j_aload_n dX8_takesShot_0 rfl rfl ?_
  refine j_getI fl_RX8_49 sh_8 rfl dX8_takesShot_1 ?_
  refine j_iconst dX8_takesShot_4 (inr_d rfl) ?_
  refine j_icmp_ne (tgt := 30) dX8_takesShot_5 rfl ?_ ?_
  · refine j_iconst dX8_takesShot_30 (inr_d rfl) ?_
    exact j_zret hq dX8_takesShot_31
  · refine j_aload_n dX8_takesShot_8 rfl rfl ?_
    refine j_getR fl_RX8_15 sh_8 rfl dX8_takesShot_9 ?_
    refine j_iconst dX8_takesShot_12 (inr_d rfl) ?_
    refine j_iald sh_10 dX8_takesShot_13 (fun v1 => ?_)
    refine j_aload_n dX8_takesShot_14 rfl rfl ?_
    refine j_getI fl_RX8_52 (sc_o h1) rfl dX8_takesShot_15 ?_
    refine j_icmp_ne (tgt := 30) dX8_takesShot_18 rfl ?_ ?_
    · refine j_iconst dX8_takesShot_30 (inr_d rfl) ?_
      exact j_zret hq dX8_takesShot_31
    · refine j_aload_n dX8_takesShot_21 rfl rfl ?_
      refine j_getI fl_RX8_52 (sc_o h1) rfl dX8_takesShot_22 ?_
      refine j_bipush (v := 16) dX8_takesShot_25 (by decide +kernel) (inr_d rfl) ?_
      refine j_icmp_lt (tgt := 32) dX8_takesShot_27 rfl ?_ ?_
      · refine j_aload_n dX8_takesShot_32 rfl rfl ?_
        refine j_getR fl_RX8_15 sh_8 rfl dX8_takesShot_33 ?_
        refine j_iconst dX8_takesShot_36 (inr_d rfl) ?_
        refine j_iald sh_10 dX8_takesShot_37 (fun v2 => ?_)
        refine j_iconst dX8_takesShot_38 (inr_d rfl) ?_
        refine j_sipush (v := 400) dX8_takesShot_39 (by decide +kernel) (inr_d rfl) ?_
        refine j_callNi (mX10_isWithin (kl K) (kD K) (kad K) (kcA K) v2 1 400 s0) cw_RX8_55 ⟨rfl, rfl, by decide, by decide⟩ rfl rfl (Nat.le_of_ble_eq_true rfl) dX8_takesShot_42 (fun r3 s4 => ?_)
        refine j_if_eq (tgt := 56) dX8_takesShot_45 rfl ?_ ?_
        · refine j_iconst dX8_takesShot_56 (inr_d rfl) ?_
          exact j_zret hq dX8_takesShot_57
        · refine j_aload_n dX8_takesShot_48 rfl rfl ?_
          refine j_iconst dX8_takesShot_49 (inr_d rfl) ?_
          refine j_callVi (mX8_areLights (kl K) (kD K) (kad K) (kcA K) 2 s4) cw_RX8_59 sh_8 rfl ⟨rfl, rfl, by decide, by decide⟩ rfl rfl (Nat.le_of_ble_eq_true rfl) dX8_takesShot_50 (fun r5 s6 => ?_)
          refine j_if_ne (tgt := 58) dX8_takesShot_53 rfl ?_ ?_
          · refine j_aload_n dX8_takesShot_58 rfl rfl ?_
            refine j_aload_n dX8_takesShot_59 rfl rfl ?_
            refine j_getR fl_RX8_15 sh_8 rfl dX8_takesShot_60 ?_
            refine j_iconst dX8_takesShot_63 (inr_d rfl) ?_
            refine j_iald sh_10 dX8_takesShot_64 (fun v7 => ?_)
            refine j_aload_n dX8_takesShot_65 rfl rfl ?_
            refine j_getR fl_RX8_15 sh_8 rfl dX8_takesShot_66 ?_
            refine j_iconst dX8_takesShot_69 (inr_d rfl) ?_
            refine j_iald sh_10 dX8_takesShot_70 (fun v8 => ?_)
            refine j_aload_n dX8_takesShot_71 rfl rfl ?_
            refine j_getR fl_RX8_15 sh_8 rfl dX8_takesShot_72 ?_
            refine j_iconst dX8_takesShot_75 (inr_d rfl) ?_
            refine j_iald sh_10 dX8_takesShot_76 (fun v9 => ?_)
            refine j_aload_n dX8_takesShot_77 rfl rfl ?_
            refine j_getR fl_RX8_15 sh_8 rfl dX8_takesShot_78 ?_
            refine j_iconst dX8_takesShot_81 (inr_d rfl) ?_
            refine j_iald sh_10 dX8_takesShot_82 (fun v10 => ?_)
            refine j_callVv (mX6_addShot (kl K) (kD K) (kad K) (kcA K) t1 h1 v7 v8 v9 v10 s6) cw_RX8_63 (sc_o h1) rfl ⟨rfl, rfl, by decide, by decide⟩ rfl rfl (Nat.le_of_ble_eq_true rfl) dX8_takesShot_83 (fun _ s12 => ?_)
            refine j_iconst dX8_takesShot_86 (inr_d rfl) ?_
            exact j_zret hq dX8_takesShot_87
          · refine j_iconst dX8_takesShot_56 (inr_d rfl) ?_
            exact j_zret hq dX8_takesShot_57
      · refine j_iconst dX8_takesShot_30 (inr_d rfl) ?_
        exact j_zret hq dX8_takesShot_31
abbrev rmX8_takesFade : Room := { frames := 2, cells := 0, slots := 0, locals := 48 }
theorem dX8_takesFade_0 : decode cX8_takesFade 0 = .ok (.aload_n 1, 1) := by decide +kernel
theorem dX8_takesFade_1 : decode cX8_takesFade 1 = .ok (.getfield 52, 3) := by decide +kernel
theorem dX8_takesFade_4 : decode cX8_takesFade 4 = .ok (.iconst 1, 1) := by decide +kernel
theorem dX8_takesFade_5 : decode cX8_takesFade 5 = .ok (.isub, 1) := by decide +kernel
theorem dX8_takesFade_6 : decode cX8_takesFade 6 = .ok (.istore_n 2, 1) := by decide +kernel
theorem dX8_takesFade_7 : decode cX8_takesFade 7 = .ok (.aload_n 0, 1) := by decide +kernel
theorem dX8_takesFade_8 : decode cX8_takesFade 8 = .ok (.getfield 49, 3) := by decide +kernel
theorem dX8_takesFade_11 : decode cX8_takesFade 11 = .ok (.iconst 4, 1) := by decide +kernel
theorem dX8_takesFade_12 : decode cX8_takesFade 12 = .ok (.if_icmp .ne 16, 3) := by decide +kernel
theorem dX8_takesFade_15 : decode cX8_takesFade 15 = .ok (.iload_n 2, 1) := by decide +kernel
theorem dX8_takesFade_16 : decode cX8_takesFade 16 = .ok (.ifCond .lt 12, 3) := by decide +kernel
theorem dX8_takesFade_19 : decode cX8_takesFade 19 = .ok (.aload_n 1, 1) := by decide +kernel
theorem dX8_takesFade_20 : decode cX8_takesFade 20 = .ok (.getfield 67, 3) := by decide +kernel
theorem dX8_takesFade_23 : decode cX8_takesFade 23 = .ok (.iload_n 2, 1) := by decide +kernel
theorem dX8_takesFade_24 : decode cX8_takesFade 24 = .ok (.iaload, 1) := by decide +kernel
theorem dX8_takesFade_25 : decode cX8_takesFade 25 = .ok (.ifCond .eq 5, 3) := by decide +kernel
theorem dX8_takesFade_28 : decode cX8_takesFade 28 = .ok (.iconst 0, 1) := by decide +kernel
theorem dX8_takesFade_29 : decode cX8_takesFade 29 = .ok (.ireturn, 1) := by decide +kernel
theorem dX8_takesFade_30 : decode cX8_takesFade 30 = .ok (.aload_n 0, 1) := by decide +kernel
theorem dX8_takesFade_31 : decode cX8_takesFade 31 = .ok (.getfield 15, 3) := by decide +kernel
theorem dX8_takesFade_34 : decode cX8_takesFade 34 = .ok (.iconst 0, 1) := by decide +kernel
theorem dX8_takesFade_35 : decode cX8_takesFade 35 = .ok (.iaload, 1) := by decide +kernel
theorem dX8_takesFade_36 : decode cX8_takesFade 36 = .ok (.iconst 1, 1) := by decide +kernel
theorem dX8_takesFade_37 : decode cX8_takesFade 37 = .ok (.aload_n 1, 1) := by decide +kernel
theorem dX8_takesFade_38 : decode cX8_takesFade 38 = .ok (.iload_n 2, 1) := by decide +kernel
theorem dX8_takesFade_39 : decode cX8_takesFade 39 = .ok (.invokevirtual 70, 3) := by decide +kernel
theorem dX8_takesFade_42 : decode cX8_takesFade 42 = .ok (.invokestatic 55, 3) := by decide +kernel
theorem dX8_takesFade_45 : decode cX8_takesFade 45 = .ok (.ifCond .eq 11, 3) := by decide +kernel
theorem dX8_takesFade_48 : decode cX8_takesFade 48 = .ok (.aload_n 0, 1) := by decide +kernel
theorem dX8_takesFade_49 : decode cX8_takesFade 49 = .ok (.iconst 1, 1) := by decide +kernel
theorem dX8_takesFade_50 : decode cX8_takesFade 50 = .ok (.invokevirtual 59, 3) := by decide +kernel
theorem dX8_takesFade_53 : decode cX8_takesFade 53 = .ok (.ifCond .ne 5, 3) := by decide +kernel
theorem dX8_takesFade_56 : decode cX8_takesFade 56 = .ok (.iconst 0, 1) := by decide +kernel
theorem dX8_takesFade_57 : decode cX8_takesFade 57 = .ok (.ireturn, 1) := by decide +kernel
theorem dX8_takesFade_58 : decode cX8_takesFade 58 = .ok (.aload_n 1, 1) := by decide +kernel
theorem dX8_takesFade_59 : decode cX8_takesFade 59 = .ok (.aload_n 0, 1) := by decide +kernel
theorem dX8_takesFade_60 : decode cX8_takesFade 60 = .ok (.getfield 15, 3) := by decide +kernel
theorem dX8_takesFade_63 : decode cX8_takesFade 63 = .ok (.iconst 0, 1) := by decide +kernel
theorem dX8_takesFade_64 : decode cX8_takesFade 64 = .ok (.iaload, 1) := by decide +kernel
theorem dX8_takesFade_65 : decode cX8_takesFade 65 = .ok (.aload_n 0, 1) := by decide +kernel
theorem dX8_takesFade_66 : decode cX8_takesFade 66 = .ok (.getfield 15, 3) := by decide +kernel
theorem dX8_takesFade_69 : decode cX8_takesFade 69 = .ok (.iconst 1, 1) := by decide +kernel
theorem dX8_takesFade_70 : decode cX8_takesFade 70 = .ok (.iaload, 1) := by decide +kernel
theorem dX8_takesFade_71 : decode cX8_takesFade 71 = .ok (.aload_n 0, 1) := by decide +kernel
theorem dX8_takesFade_72 : decode cX8_takesFade 72 = .ok (.getfield 15, 3) := by decide +kernel
theorem dX8_takesFade_75 : decode cX8_takesFade 75 = .ok (.iconst 2, 1) := by decide +kernel
theorem dX8_takesFade_76 : decode cX8_takesFade 76 = .ok (.iaload, 1) := by decide +kernel
theorem dX8_takesFade_77 : decode cX8_takesFade 77 = .ok (.aload_n 0, 1) := by decide +kernel
theorem dX8_takesFade_78 : decode cX8_takesFade 78 = .ok (.getfield 15, 3) := by decide +kernel
theorem dX8_takesFade_81 : decode cX8_takesFade 81 = .ok (.iconst 3, 1) := by decide +kernel
theorem dX8_takesFade_82 : decode cX8_takesFade 82 = .ok (.iaload, 1) := by decide +kernel
theorem dX8_takesFade_83 : decode cX8_takesFade 83 = .ok (.invokevirtual 74, 3) := by decide +kernel
theorem dX8_takesFade_86 : decode cX8_takesFade 86 = .ok (.iconst 1, 1) := by decide +kernel
theorem dX8_takesFade_87 : decode cX8_takesFade 87 = .ok (.ireturn, 1) := by decide +kernel
def fX8_takesFade (t1 : Nat) (s0 : Mem) : Option Res :=
 lt (wr ((s0 t1 0) - 1)) (fun v1 =>
 (if s0 8 3 ≠ 4 then
 zr 0 s0
 else
 (if v1 < 0 then
 zr 0 s0
 else
 rd (s0 (t1 + 3)) v1 16 (fun v2 =>
 (if v2 = 0 then
 rd (s0 10) 0 5 (fun v3 =>
 bnd (fX6_framesOf t1 v1 s0) (fun r4 s5 =>
 bnd (fX10_isWithin v3 1 r4 s5) (fun r6 s7 =>
 (if r6 = 0 then
 zr 0 s7
 else
 bnd (fX8_areLights 1 s7) (fun r8 s9 =>
 (if r8 ≠ 0 then
 rd (s9 10) 0 5 (fun v10 =>
 rd (s9 10) 1 5 (fun v11 =>
 rd (s9 10) 2 5 (fun v12 =>
 rd (s9 10) 3 5 (fun v13 =>
 bnd (fX6_addFade t1 v10 v11 v12 v13 s9) (fun _ s15 =>
 zr 1 s15)))))
 else
 zr 0 s9))))))
 else
 zr 0 s0)))))
set_option maxRecDepth 100000 in
set_option maxHeartbeats 4000000 in
theorem mX8_takesFade (l : Launch) (D : va_G) (ad : Nat → Nat) (cA : Nat → ClassId) (t1 : Nat) (h1 : isSc t1) (s0 : Mem) : MCi l D ad cA yX8_takesFade cX8_takesFade 3 (some .boolean) rmX8_takesFade [.inr (.inr 8), .inr (.inr t1)] s0 (fX8_takesFade t1 s0) := by
  refine MCi_ofE (own := RX8) (ls := [some (.inr (.inr 8)), some (.inr (.inr t1)), none]) 1 (by decide +kernel) rfl rfl (fun _ => Nat.le_of_ble_eq_true rfl) (fun K hq => ?_)
  unfold fX8_takesFade
  refine j_aload_n dX8_takesFade_0 rfl rfl ?_
  refine j_getI fl_RX8_52 (sc_o h1) rfl dX8_takesFade_1 ?_
  refine j_iconst dX8_takesFade_4 (inr_d rfl) ?_
  refine j_isub dX8_takesFade_5 ?_
  refine j_ltv (fun v1 => ?_)
  refine j_istore_nE (ls2 := [some (.inr (.inr 8)), some (.inr (.inr t1)), some (.inl v1)]) dX8_takesFade_6 rfl (by decide) rfl rfl ?_
  refine j_aload_n dX8_takesFade_7 rfl rfl ?_
  refine j_getI fl_RX8_49 sh_8 rfl dX8_takesFade_8 ?_
  refine j_iconst dX8_takesFade_11 (inr_d rfl) ?_
  refine j_icmp_ne (tgt := 28) dX8_takesFade_12 rfl ?_ ?_
  · refine j_iconst dX8_takesFade_28 (inr_d rfl) ?_
    exact j_zret hq dX8_takesFade_29
  · refine j_iload_n dX8_takesFade_15 rfl rfl ?_
    refine j_if_lt (tgt := 28) dX8_takesFade_16 rfl ?_ ?_
    · refine j_iconst dX8_takesFade_28 (inr_d rfl) ?_
      exact j_zret hq dX8_takesFade_29
    · refine j_aload_n dX8_takesFade_19 rfl rfl ?_
      refine j_getR fl_RX8_67 (sc_o h1) rfl dX8_takesFade_20 ?_
      refine j_iload_n dX8_takesFade_23 rfl rfl ?_
      refine j_iald (sc_4 h1) dX8_takesFade_24 (fun v2 => ?_)
      refine j_if_eq (tgt := 30) dX8_takesFade_25 rfl ?_ ?_
      · refine j_aload_n dX8_takesFade_30 rfl rfl ?_
        refine j_getR fl_RX8_15 sh_8 rfl dX8_takesFade_31 ?_
        refine j_iconst dX8_takesFade_34 (inr_d rfl) ?_
        refine j_iald sh_10 dX8_takesFade_35 (fun v3 => ?_)
        refine j_iconst dX8_takesFade_36 (inr_d rfl) ?_
        refine j_aload_n dX8_takesFade_37 rfl rfl ?_
        refine j_iload_n dX8_takesFade_38 rfl rfl ?_
        refine j_callVi (mX6_framesOf (kl K) (kD K) (kad K) (kcA K) t1 h1 v1 s0) cw_RX8_70 (sc_o h1) rfl ⟨rfl, rfl, by decide, by decide⟩ rfl rfl (Nat.le_of_ble_eq_true rfl) dX8_takesFade_39 (fun r4 s5 => ?_)
        refine j_callNi (mX10_isWithin (kl K) (kD K) (kad K) (kcA K) v3 1 r4 s5) cw_RX8_55 ⟨rfl, rfl, by decide, by decide⟩ rfl rfl (Nat.le_of_ble_eq_true rfl) dX8_takesFade_42 (fun r6 s7 => ?_)
        refine j_if_eq (tgt := 56) dX8_takesFade_45 rfl ?_ ?_
        · refine j_iconst dX8_takesFade_56 (inr_d rfl) ?_
          exact j_zret hq dX8_takesFade_57
        · refine j_aload_n dX8_takesFade_48 rfl rfl ?_
          refine j_iconst dX8_takesFade_49 (inr_d rfl) ?_
          refine j_callVi (mX8_areLights (kl K) (kD K) (kad K) (kcA K) 1 s7) cw_RX8_59 sh_8 rfl ⟨rfl, rfl, by decide, by decide⟩ rfl rfl (Nat.le_of_ble_eq_true rfl) dX8_takesFade_50 (fun r8 s9 => ?_)
          refine j_if_ne (tgt := 58) dX8_takesFade_53 rfl ?_ ?_
          · refine j_aload_n dX8_takesFade_58 rfl rfl ?_
            refine j_aload_n dX8_takesFade_59 rfl rfl ?_
            refine j_getR fl_RX8_15 sh_8 rfl dX8_takesFade_60 ?_
            refine j_iconst dX8_takesFade_63 (inr_d rfl) ?_
            refine j_iald sh_10 dX8_takesFade_64 (fun v10 => ?_)
            refine j_aload_n dX8_takesFade_65 rfl rfl ?_
            refine j_getR fl_RX8_15 sh_8 rfl dX8_takesFade_66 ?_
            refine j_iconst dX8_takesFade_69 (inr_d rfl) ?_
            refine j_iald sh_10 dX8_takesFade_70 (fun v11 => ?_)
            refine j_aload_n dX8_takesFade_71 rfl rfl ?_
            refine j_getR fl_RX8_15 sh_8 rfl dX8_takesFade_72 ?_
            refine j_iconst dX8_takesFade_75 (inr_d rfl) ?_
            refine j_iald sh_10 dX8_takesFade_76 (fun v12 => ?_)
            refine j_aload_n dX8_takesFade_77 rfl rfl ?_
            refine j_getR fl_RX8_15 sh_8 rfl dX8_takesFade_78 ?_
            refine j_iconst dX8_takesFade_81 (inr_d rfl) ?_
            refine j_iald sh_10 dX8_takesFade_82 (fun v13 => ?_)
            refine j_callVv (mX6_addFade (kl K) (kD K) (kad K) (kcA K) t1 h1 v10 v11 v12 v13 s9) cw_RX8_74 (sc_o h1) rfl ⟨rfl, rfl, by decide, by decide⟩ rfl rfl (Nat.le_of_ble_eq_true rfl) dX8_takesFade_83 (fun _ s15 => ?_)
            refine j_iconst dX8_takesFade_86 (inr_d rfl) ?_
            exact j_zret hq dX8_takesFade_87
          · refine j_iconst dX8_takesFade_56 (inr_d rfl) ?_
            exact j_zret hq dX8_takesFade_57
      · refine j_iconst dX8_takesFade_28 (inr_d rfl) ?_
        exact j_zret hq dX8_takesFade_29
abbrev rmX8_takesEffect : Room := { frames := 1, cells := 0, slots := 0, locals := 24 }
theorem dX8_takesEffect_0 : decode cX8_takesEffect 0 = .ok (.aload_n 1, 1) := by decide +kernel
theorem dX8_takesEffect_1 : decode cX8_takesEffect 1 = .ok (.getfield 52, 3) := by decide +kernel
theorem dX8_takesEffect_4 : decode cX8_takesEffect 4 = .ok (.iconst 1, 1) := by decide +kernel
theorem dX8_takesEffect_5 : decode cX8_takesEffect 5 = .ok (.isub, 1) := by decide +kernel
theorem dX8_takesEffect_6 : decode cX8_takesEffect 6 = .ok (.istore_n 2, 1) := by decide +kernel
theorem dX8_takesEffect_7 : decode cX8_takesEffect 7 = .ok (.aload_n 0, 1) := by decide +kernel
theorem dX8_takesEffect_8 : decode cX8_takesEffect 8 = .ok (.getfield 49, 3) := by decide +kernel
theorem dX8_takesEffect_11 : decode cX8_takesEffect 11 = .ok (.iconst 3, 1) := by decide +kernel
theorem dX8_takesEffect_12 : decode cX8_takesEffect 12 = .ok (.if_icmp .ne 17, 3) := by decide +kernel
theorem dX8_takesEffect_15 : decode cX8_takesEffect 15 = .ok (.iload_n 2, 1) := by decide +kernel
theorem dX8_takesEffect_16 : decode cX8_takesEffect 16 = .ok (.ifCond .lt 13, 3) := by decide +kernel
theorem dX8_takesEffect_19 : decode cX8_takesEffect 19 = .ok (.aload_n 1, 1) := by decide +kernel
theorem dX8_takesEffect_20 : decode cX8_takesEffect 20 = .ok (.getfield 77, 3) := by decide +kernel
theorem dX8_takesEffect_23 : decode cX8_takesEffect 23 = .ok (.iload_n 2, 1) := by decide +kernel
theorem dX8_takesEffect_24 : decode cX8_takesEffect 24 = .ok (.iaload, 1) := by decide +kernel
theorem dX8_takesEffect_25 : decode cX8_takesEffect 25 = .ok (.iconst 4, 1) := by decide +kernel
theorem dX8_takesEffect_26 : decode cX8_takesEffect 26 = .ok (.if_icmp .lt 5, 3) := by decide +kernel
theorem dX8_takesEffect_29 : decode cX8_takesEffect 29 = .ok (.iconst 0, 1) := by decide +kernel
theorem dX8_takesEffect_30 : decode cX8_takesEffect 30 = .ok (.ireturn, 1) := by decide +kernel
theorem dX8_takesEffect_31 : decode cX8_takesEffect 31 = .ok (.aload_n 0, 1) := by decide +kernel
theorem dX8_takesEffect_32 : decode cX8_takesEffect 32 = .ok (.getfield 15, 3) := by decide +kernel
theorem dX8_takesEffect_35 : decode cX8_takesEffect 35 = .ok (.iconst 1, 1) := by decide +kernel
theorem dX8_takesEffect_36 : decode cX8_takesEffect 36 = .ok (.iaload, 1) := by decide +kernel
theorem dX8_takesEffect_37 : decode cX8_takesEffect 37 = .ok (.iconst 1, 1) := by decide +kernel
theorem dX8_takesEffect_38 : decode cX8_takesEffect 38 = .ok (.if_icmp .lt 28, 3) := by decide +kernel
theorem dX8_takesEffect_41 : decode cX8_takesEffect 41 = .ok (.aload_n 0, 1) := by decide +kernel
theorem dX8_takesEffect_42 : decode cX8_takesEffect 42 = .ok (.getfield 15, 3) := by decide +kernel
theorem dX8_takesEffect_45 : decode cX8_takesEffect 45 = .ok (.iconst 0, 1) := by decide +kernel
theorem dX8_takesEffect_46 : decode cX8_takesEffect 46 = .ok (.iaload, 1) := by decide +kernel
theorem dX8_takesEffect_47 : decode cX8_takesEffect 47 = .ok (.aload_n 0, 1) := by decide +kernel
theorem dX8_takesEffect_48 : decode cX8_takesEffect 48 = .ok (.getfield 15, 3) := by decide +kernel
theorem dX8_takesEffect_51 : decode cX8_takesEffect 51 = .ok (.iconst 1, 1) := by decide +kernel
theorem dX8_takesEffect_52 : decode cX8_takesEffect 52 = .ok (.iaload, 1) := by decide +kernel
theorem dX8_takesEffect_53 : decode cX8_takesEffect 53 = .ok (.iadd, 1) := by decide +kernel
theorem dX8_takesEffect_54 : decode cX8_takesEffect 54 = .ok (.aload_n 1, 1) := by decide +kernel
theorem dX8_takesEffect_55 : decode cX8_takesEffect 55 = .ok (.iload_n 2, 1) := by decide +kernel
theorem dX8_takesEffect_56 : decode cX8_takesEffect 56 = .ok (.invokevirtual 70, 3) := by decide +kernel
theorem dX8_takesEffect_59 : decode cX8_takesEffect 59 = .ok (.if_icmp .gt 7, 3) := by decide +kernel
theorem dX8_takesEffect_62 : decode cX8_takesEffect 62 = .ok (.iconst 1, 1) := by decide +kernel
theorem dX8_takesEffect_63 : decode cX8_takesEffect 63 = .ok (.goto 4, 3) := by decide +kernel
theorem dX8_takesEffect_66 : decode cX8_takesEffect 66 = .ok (.iconst 0, 1) := by decide +kernel
theorem dX8_takesEffect_67 : decode cX8_takesEffect 67 = .ok (.istore_n 3, 1) := by decide +kernel
theorem dX8_takesEffect_68 : decode cX8_takesEffect 68 = .ok (.iload_n 3, 1) := by decide +kernel
theorem dX8_takesEffect_69 : decode cX8_takesEffect 69 = .ok (.ifCond .eq 18, 3) := by decide +kernel
theorem dX8_takesEffect_72 : decode cX8_takesEffect 72 = .ok (.aload_n 0, 1) := by decide +kernel
theorem dX8_takesEffect_73 : decode cX8_takesEffect 73 = .ok (.getfield 15, 3) := by decide +kernel
theorem dX8_takesEffect_76 : decode cX8_takesEffect 76 = .ok (.iconst 2, 1) := by decide +kernel
theorem dX8_takesEffect_77 : decode cX8_takesEffect 77 = .ok (.iaload, 1) := by decide +kernel
theorem dX8_takesEffect_78 : decode cX8_takesEffect 78 = .ok (.iconst 1, 1) := by decide +kernel
theorem dX8_takesEffect_79 : decode cX8_takesEffect 79 = .ok (.bipush 40, 2) := by decide +kernel
theorem dX8_takesEffect_81 : decode cX8_takesEffect 81 = .ok (.invokestatic 55, 3) := by decide +kernel
theorem dX8_takesEffect_84 : decode cX8_takesEffect 84 = .ok (.ifCond .ne 5, 3) := by decide +kernel
theorem dX8_takesEffect_87 : decode cX8_takesEffect 87 = .ok (.iconst 0, 1) := by decide +kernel
theorem dX8_takesEffect_88 : decode cX8_takesEffect 88 = .ok (.ireturn, 1) := by decide +kernel
theorem dX8_takesEffect_89 : decode cX8_takesEffect 89 = .ok (.aload_n 1, 1) := by decide +kernel
theorem dX8_takesEffect_90 : decode cX8_takesEffect 90 = .ok (.aload_n 0, 1) := by decide +kernel
theorem dX8_takesEffect_91 : decode cX8_takesEffect 91 = .ok (.getfield 15, 3) := by decide +kernel
theorem dX8_takesEffect_94 : decode cX8_takesEffect 94 = .ok (.iconst 0, 1) := by decide +kernel
theorem dX8_takesEffect_95 : decode cX8_takesEffect 95 = .ok (.iaload, 1) := by decide +kernel
theorem dX8_takesEffect_96 : decode cX8_takesEffect 96 = .ok (.aload_n 0, 1) := by decide +kernel
theorem dX8_takesEffect_97 : decode cX8_takesEffect 97 = .ok (.getfield 15, 3) := by decide +kernel
theorem dX8_takesEffect_100 : decode cX8_takesEffect 100 = .ok (.iconst 1, 1) := by decide +kernel
theorem dX8_takesEffect_101 : decode cX8_takesEffect 101 = .ok (.iaload, 1) := by decide +kernel
theorem dX8_takesEffect_102 : decode cX8_takesEffect 102 = .ok (.aload_n 0, 1) := by decide +kernel
theorem dX8_takesEffect_103 : decode cX8_takesEffect 103 = .ok (.getfield 15, 3) := by decide +kernel
theorem dX8_takesEffect_106 : decode cX8_takesEffect 106 = .ok (.iconst 2, 1) := by decide +kernel
theorem dX8_takesEffect_107 : decode cX8_takesEffect 107 = .ok (.iaload, 1) := by decide +kernel
theorem dX8_takesEffect_108 : decode cX8_takesEffect 108 = .ok (.invokevirtual 80, 3) := by decide +kernel
theorem dX8_takesEffect_111 : decode cX8_takesEffect 111 = .ok (.iconst 1, 1) := by decide +kernel
theorem dX8_takesEffect_112 : decode cX8_takesEffect 112 = .ok (.ireturn, 1) := by decide +kernel
def fX8_takesEffect (t1 : Nat) (s0 : Mem) : Option Res :=
 lt (wr ((s0 t1 0) - 1)) (fun v1 =>
 (if s0 8 3 ≠ 3 then
 zr 0 s0
 else
 (if v1 < 0 then
 zr 0 s0
 else
 rd (s0 (t1 + 5)) v1 16 (fun v2 =>
 (if v2 < 4 then
 rd (s0 10) 1 5 (fun v3 =>
 jn (fun (u4 : Int) (s5 : Mem) =>
 (if u4 = 0 then
 zr 0 s5
 else
 rd (s5 10) 2 5 (fun v6 =>
 bnd (fX10_isWithin v6 1 40 s5) (fun r7 s8 =>
 (if r7 ≠ 0 then
 rd (s8 10) 0 5 (fun v9 =>
 rd (s8 10) 1 5 (fun v10 =>
 rd (s8 10) 2 5 (fun v11 =>
 bnd (fX6_addEffect t1 v9 v10 v11 s8) (fun _ s13 =>
 zr 1 s13))))
 else
 zr 0 s8))))) (fun k67 =>
 (if v3 < 1 then
 k67 0 s0
 else
 rd (s0 10) 0 5 (fun v14 =>
 rd (s0 10) 1 5 (fun v15 =>
 bnd (fX6_framesOf t1 v1 s0) (fun r16 s17 =>
 (if r16 < wr (v14 + v15) then
 k67 0 s17
 else
 k67 1 s17)))))))
 else
 zr 0 s0)))))
set_option maxRecDepth 100000 in
set_option maxHeartbeats 4000000 in
theorem mX8_takesEffect (l : Launch) (D : va_G) (ad : Nat → Nat) (cA : Nat → ClassId) (t1 : Nat) (h1 : isSc t1) (s0 : Mem) : MCi l D ad cA yX8_takesEffect cX8_takesEffect 4 (some .boolean) rmX8_takesEffect [.inr (.inr 8), .inr (.inr t1)] s0 (fX8_takesEffect t1 s0) := by
  refine MCi_ofE (own := RX8) (ls := [some (.inr (.inr 8)), some (.inr (.inr t1)), none, none]) 2 (by decide +kernel) rfl rfl (fun _ => Nat.le_of_ble_eq_true rfl) (fun K hq => ?_)
  unfold fX8_takesEffect
  refine j_aload_n dX8_takesEffect_0 rfl rfl ?_
  refine j_getI fl_RX8_52 (sc_o h1) rfl dX8_takesEffect_1 ?_
  refine j_iconst dX8_takesEffect_4 (inr_d rfl) ?_
  refine j_isub dX8_takesEffect_5 ?_
  refine j_ltv (fun v1 => ?_)
  refine j_istore_nE (ls2 := [some (.inr (.inr 8)), some (.inr (.inr t1)), some (.inl v1), none]) dX8_takesEffect_6 rfl (by decide) rfl rfl ?_
  refine j_aload_n dX8_takesEffect_7 rfl rfl ?_
  refine j_getI fl_RX8_49 sh_8 rfl dX8_takesEffect_8 ?_
  refine j_iconst dX8_takesEffect_11 (inr_d rfl) ?_
  refine j_icmp_ne (tgt := 29) dX8_takesEffect_12 rfl ?_ ?_
  · refine j_iconst dX8_takesEffect_29 (inr_d rfl) ?_
    exact j_zret hq dX8_takesEffect_30
  · refine j_iload_n dX8_takesEffect_15 rfl rfl ?_
    refine j_if_lt (tgt := 29) dX8_takesEffect_16 rfl ?_ ?_
    · refine j_iconst dX8_takesEffect_29 (inr_d rfl) ?_
      exact j_zret hq dX8_takesEffect_30
    · refine j_aload_n dX8_takesEffect_19 rfl rfl ?_
      refine j_getR fl_RX8_77 (sc_o h1) rfl dX8_takesEffect_20 ?_
      refine j_iload_n dX8_takesEffect_23 rfl rfl ?_
      refine j_iald (sc_6 h1) dX8_takesEffect_24 (fun v2 => ?_)
      refine j_iconst dX8_takesEffect_25 (inr_d rfl) ?_
      refine j_icmp_lt (tgt := 31) dX8_takesEffect_26 rfl ?_ ?_
      · refine j_aload_n dX8_takesEffect_31 rfl rfl ?_
        refine j_getR fl_RX8_15 sh_8 rfl dX8_takesEffect_32 ?_
        refine j_iconst dX8_takesEffect_35 (inr_d rfl) ?_
        refine j_iald sh_10 dX8_takesEffect_36 (fun v3 => ?_)
        refine j_iconst dX8_takesEffect_37 (inr_d rfl) ?_
        refine j_jn (fun k67 => ∀ (u4 : Int) (s5 : Mem), J K rmX8_takesEffect cX8_takesEffect RX8 4 67 [some (.inr (.inr 8)), some (.inr (.inr t1)), none, none] [.inl u4] s5 (k67 u4 s5)) (fun u4 s5 => ?_) (fun k67 hk67 => ?_)
        · refine j_istore_nE (ls2 := [some (.inr (.inr 8)), some (.inr (.inr t1)), none, some (.inl u4)]) dX8_takesEffect_67 rfl (by decide) rfl rfl ?_
          refine j_iload_n dX8_takesEffect_68 rfl rfl ?_
          refine j_if_eq (tgt := 87) dX8_takesEffect_69 rfl ?_ ?_
          · refine j_iconst dX8_takesEffect_87 (inr_d rfl) ?_
            exact j_zret hq dX8_takesEffect_88
          · refine j_aload_n dX8_takesEffect_72 rfl rfl ?_
            refine j_getR fl_RX8_15 sh_8 rfl dX8_takesEffect_73 ?_
            refine j_iconst dX8_takesEffect_76 (inr_d rfl) ?_
            refine j_iald sh_10 dX8_takesEffect_77 (fun v6 => ?_)
            refine j_iconst dX8_takesEffect_78 (inr_d rfl) ?_
            refine j_bipush (v := 40) dX8_takesEffect_79 (by decide +kernel) (inr_d rfl) ?_
            refine j_callNi (mX10_isWithin (kl K) (kD K) (kad K) (kcA K) v6 1 40 s5) cw_RX8_55 ⟨rfl, rfl, by decide, by decide⟩ rfl rfl (Nat.le_of_ble_eq_true rfl) dX8_takesEffect_81 (fun r7 s8 => ?_)
            refine j_if_ne (tgt := 89) dX8_takesEffect_84 rfl ?_ ?_
            · refine j_aload_n dX8_takesEffect_89 rfl rfl ?_
              refine j_aload_n dX8_takesEffect_90 rfl rfl ?_
              refine j_getR fl_RX8_15 sh_8 rfl dX8_takesEffect_91 ?_
              refine j_iconst dX8_takesEffect_94 (inr_d rfl) ?_
              refine j_iald sh_10 dX8_takesEffect_95 (fun v9 => ?_)
              refine j_aload_n dX8_takesEffect_96 rfl rfl ?_
              refine j_getR fl_RX8_15 sh_8 rfl dX8_takesEffect_97 ?_
              refine j_iconst dX8_takesEffect_100 (inr_d rfl) ?_
              refine j_iald sh_10 dX8_takesEffect_101 (fun v10 => ?_)
              refine j_aload_n dX8_takesEffect_102 rfl rfl ?_
              refine j_getR fl_RX8_15 sh_8 rfl dX8_takesEffect_103 ?_
              refine j_iconst dX8_takesEffect_106 (inr_d rfl) ?_
              refine j_iald sh_10 dX8_takesEffect_107 (fun v11 => ?_)
              refine j_callVv (mX6_addEffect (kl K) (kD K) (kad K) (kcA K) t1 h1 v9 v10 v11 s8) cw_RX8_80 (sc_o h1) rfl ⟨rfl, rfl, by decide, by decide⟩ rfl rfl (Nat.le_of_ble_eq_true rfl) dX8_takesEffect_108 (fun _ s13 => ?_)
              refine j_iconst dX8_takesEffect_111 (inr_d rfl) ?_
              exact j_zret hq dX8_takesEffect_112
            · refine j_iconst dX8_takesEffect_87 (inr_d rfl) ?_
              exact j_zret hq dX8_takesEffect_88
        refine j_icmp_lt (tgt := 66) dX8_takesEffect_38 rfl ?_ ?_
        · refine j_iconst dX8_takesEffect_66 (inr_d rfl) ?_
          exact j_msk [true, true, false, false] (hk67 _ _)
        · refine j_aload_n dX8_takesEffect_41 rfl rfl ?_
          refine j_getR fl_RX8_15 sh_8 rfl dX8_takesEffect_42 ?_
          refine j_iconst dX8_takesEffect_45 (inr_d rfl) ?_
          refine j_iald sh_10 dX8_takesEffect_46 (fun v14 => ?_)
          refine j_aload_n dX8_takesEffect_47 rfl rfl ?_
          refine j_getR fl_RX8_15 sh_8 rfl dX8_takesEffect_48 ?_
          refine j_iconst dX8_takesEffect_51 (inr_d rfl) ?_
          refine j_iald sh_10 dX8_takesEffect_52 (fun v15 => ?_)
          refine j_iadd dX8_takesEffect_53 ?_
          refine j_aload_n dX8_takesEffect_54 rfl rfl ?_
          refine j_iload_n dX8_takesEffect_55 rfl rfl ?_
          refine j_callVi (mX6_framesOf (kl K) (kD K) (kad K) (kcA K) t1 h1 v1 s0) cw_RX8_70 (sc_o h1) rfl ⟨rfl, rfl, by decide, by decide⟩ rfl rfl (Nat.le_of_ble_eq_true rfl) dX8_takesEffect_56 (fun r16 s17 => ?_)
          refine j_icmp_gt (tgt := 66) dX8_takesEffect_59 rfl ?_ ?_
          · refine j_iconst dX8_takesEffect_66 (inr_d rfl) ?_
            exact j_msk [true, true, false, false] (hk67 _ _)
          · refine j_iconst dX8_takesEffect_62 (inr_d rfl) ?_
            refine j_goto (tgt := 67) dX8_takesEffect_63 rfl ?_
            exact j_msk [true, true, false, false] (hk67 _ _)
      · refine j_iconst dX8_takesEffect_29 (inr_d rfl) ?_
        exact j_zret hq dX8_takesEffect_30
abbrev rmX8_takesCopies : Room := { frames := 1, cells := 0, slots := 0, locals := 22 }
theorem dX8_takesCopies_0 : decode cX8_takesCopies 0 = .ok (.aload_n 0, 1) := by decide +kernel
theorem dX8_takesCopies_1 : decode cX8_takesCopies 1 = .ok (.getfield 49, 3) := by decide +kernel
theorem dX8_takesCopies_4 : decode cX8_takesCopies 4 = .ok (.iconst 1, 1) := by decide +kernel
theorem dX8_takesCopies_5 : decode cX8_takesCopies 5 = .ok (.if_icmp .ne 26, 3) := by decide +kernel
theorem dX8_takesCopies_8 : decode cX8_takesCopies 8 = .ok (.aload_n 1, 1) := by decide +kernel
theorem dX8_takesCopies_9 : decode cX8_takesCopies 9 = .ok (.getfield 84, 3) := by decide +kernel
theorem dX8_takesCopies_12 : decode cX8_takesCopies 12 = .ok (.ifCond .ne 19, 3) := by decide +kernel
theorem dX8_takesCopies_15 : decode cX8_takesCopies 15 = .ok (.aload_n 0, 1) := by decide +kernel
theorem dX8_takesCopies_16 : decode cX8_takesCopies 16 = .ok (.getfield 15, 3) := by decide +kernel
theorem dX8_takesCopies_19 : decode cX8_takesCopies 19 = .ok (.iconst 0, 1) := by decide +kernel
theorem dX8_takesCopies_20 : decode cX8_takesCopies 20 = .ok (.iaload, 1) := by decide +kernel
theorem dX8_takesCopies_21 : decode cX8_takesCopies 21 = .ok (.iconst 1, 1) := by decide +kernel
theorem dX8_takesCopies_22 : decode cX8_takesCopies 22 = .ok (.sipush 999, 3) := by decide +kernel
theorem dX8_takesCopies_25 : decode cX8_takesCopies 25 = .ok (.invokestatic 55, 3) := by decide +kernel
theorem dX8_takesCopies_28 : decode cX8_takesCopies 28 = .ok (.ifCond .ne 5, 3) := by decide +kernel
theorem dX8_takesCopies_31 : decode cX8_takesCopies 31 = .ok (.iconst 0, 1) := by decide +kernel
theorem dX8_takesCopies_32 : decode cX8_takesCopies 32 = .ok (.ireturn, 1) := by decide +kernel
theorem dX8_takesCopies_33 : decode cX8_takesCopies 33 = .ok (.aload_n 1, 1) := by decide +kernel
theorem dX8_takesCopies_34 : decode cX8_takesCopies 34 = .ok (.aload_n 0, 1) := by decide +kernel
theorem dX8_takesCopies_35 : decode cX8_takesCopies 35 = .ok (.getfield 15, 3) := by decide +kernel
theorem dX8_takesCopies_38 : decode cX8_takesCopies 38 = .ok (.iconst 0, 1) := by decide +kernel
theorem dX8_takesCopies_39 : decode cX8_takesCopies 39 = .ok (.iaload, 1) := by decide +kernel
theorem dX8_takesCopies_40 : decode cX8_takesCopies 40 = .ok (.putfield 84, 3) := by decide +kernel
theorem dX8_takesCopies_43 : decode cX8_takesCopies 43 = .ok (.iconst 1, 1) := by decide +kernel
theorem dX8_takesCopies_44 : decode cX8_takesCopies 44 = .ok (.ireturn, 1) := by decide +kernel
def fX8_takesCopies (t1 : Nat) (s0 : Mem) : Option Res :=
 (if s0 8 3 ≠ 1 then
 zr 0 s0
 else
 (if s0 t1 1 ≠ 0 then
 zr 0 s0
 else
 rd (s0 10) 0 5 (fun v1 =>
 bnd (fX10_isWithin v1 1 999 s0) (fun r2 s3 =>
 (if r2 ≠ 0 then
 rd (s3 10) 0 5 (fun v4 =>
 lt (up s3 t1 1 v4) (fun s5 =>
 zr 1 s5))
 else
 zr 0 s3)))))
set_option maxRecDepth 100000 in
set_option maxHeartbeats 4000000 in
theorem mX8_takesCopies (l : Launch) (D : va_G) (ad : Nat → Nat) (cA : Nat → ClassId) (t1 : Nat) (h1 : isSc t1) (s0 : Mem) : MCi l D ad cA yX8_takesCopies cX8_takesCopies 2 (some .boolean) rmX8_takesCopies [.inr (.inr 8), .inr (.inr t1)] s0 (fX8_takesCopies t1 s0) := by
  refine MCi_ofE (own := RX8) (ls := [some (.inr (.inr 8)), some (.inr (.inr t1))]) 0 (by decide +kernel) rfl rfl (fun _ => Nat.le_of_ble_eq_true rfl) (fun K hq => ?_)
  unfold fX8_takesCopies
  refine j_aload_n dX8_takesCopies_0 rfl rfl ?_
  refine j_getI fl_RX8_49 sh_8 rfl dX8_takesCopies_1 ?_
  refine j_iconst dX8_takesCopies_4 (inr_d rfl) ?_
  refine j_icmp_ne (tgt := 31) dX8_takesCopies_5 rfl ?_ ?_
  · refine j_iconst dX8_takesCopies_31 (inr_d rfl) ?_
    exact j_zret hq dX8_takesCopies_32
  · refine j_aload_n dX8_takesCopies_8 rfl rfl ?_
    refine j_getI fl_RX8_84 (sc_o h1) rfl dX8_takesCopies_9 ?_
    refine j_if_ne (tgt := 31) dX8_takesCopies_12 rfl ?_ ?_
    · refine j_iconst dX8_takesCopies_31 (inr_d rfl) ?_
      exact j_zret hq dX8_takesCopies_32
    · refine j_aload_n dX8_takesCopies_15 rfl rfl ?_
      refine j_getR fl_RX8_15 sh_8 rfl dX8_takesCopies_16 ?_
      refine j_iconst dX8_takesCopies_19 (inr_d rfl) ?_
      refine j_iald sh_10 dX8_takesCopies_20 (fun v1 => ?_)
      refine j_iconst dX8_takesCopies_21 (inr_d rfl) ?_
      refine j_sipush (v := 999) dX8_takesCopies_22 (by decide +kernel) (inr_d rfl) ?_
      refine j_callNi (mX10_isWithin (kl K) (kD K) (kad K) (kcA K) v1 1 999 s0) cw_RX8_55 ⟨rfl, rfl, by decide, by decide⟩ rfl rfl (Nat.le_of_ble_eq_true rfl) dX8_takesCopies_25 (fun r2 s3 => ?_)
      refine j_if_ne (tgt := 33) dX8_takesCopies_28 rfl ?_ ?_
      · refine j_aload_n dX8_takesCopies_33 rfl rfl ?_
        refine j_aload_n dX8_takesCopies_34 rfl rfl ?_
        refine j_getR fl_RX8_15 sh_8 rfl dX8_takesCopies_35 ?_
        refine j_iconst dX8_takesCopies_38 (inr_d rfl) ?_
        refine j_iald sh_10 dX8_takesCopies_39 (fun v4 => ?_)
        refine j_putI fp_RX8_84 (sc_o h1) rfl dX8_takesCopies_40 (fun s5 => ?_)
        refine j_iconst dX8_takesCopies_43 (inr_d rfl) ?_
        exact j_zret hq dX8_takesCopies_44
      · refine j_iconst dX8_takesCopies_31 (inr_d rfl) ?_
        exact j_zret hq dX8_takesCopies_32
abbrev rmX8_takesItem : Room := { frames := 3, cells := 0, slots := 0, locals := 70 }
theorem dX8_takesItem_0 : decode cX8_takesItem 0 = .ok (.aload_n 0, 1) := by decide +kernel
theorem dX8_takesItem_1 : decode cX8_takesItem 1 = .ok (.iload_n 1, 1) := by decide +kernel
theorem dX8_takesItem_2 : decode cX8_takesItem 2 = .ok (.iconst 1, 1) := by decide +kernel
theorem dX8_takesItem_3 : decode cX8_takesItem 3 = .ok (.iadd, 1) := by decide +kernel
theorem dX8_takesItem_4 : decode cX8_takesItem 4 = .ok (.iload_n 2, 1) := by decide +kernel
theorem dX8_takesItem_5 : decode cX8_takesItem 5 = .ok (.invokevirtual 32, 3) := by decide +kernel
theorem dX8_takesItem_8 : decode cX8_takesItem 8 = .ok (.ifCond .ne 5, 3) := by decide +kernel
theorem dX8_takesItem_11 : decode cX8_takesItem 11 = .ok (.iconst 0, 1) := by decide +kernel
theorem dX8_takesItem_12 : decode cX8_takesItem 12 = .ok (.ireturn, 1) := by decide +kernel
theorem dX8_takesItem_13 : decode cX8_takesItem 13 = .ok (.aload_n 0, 1) := by decide +kernel
theorem dX8_takesItem_14 : decode cX8_takesItem 14 = .ok (.getfield 11, 3) := by decide +kernel
theorem dX8_takesItem_17 : decode cX8_takesItem 17 = .ok (.iload_n 1, 1) := by decide +kernel
theorem dX8_takesItem_18 : decode cX8_takesItem 18 = .ok (.baload, 1) := by decide +kernel
theorem dX8_takesItem_19 : decode cX8_takesItem 19 = .ok (.lookupswitch 65 #[(99, 59), (101, 53), (102, 47), (115, 41)], 41) := by decide +kernel
theorem dX8_takesItem_60 : decode cX8_takesItem 60 = .ok (.aload_n 0, 1) := by decide +kernel
theorem dX8_takesItem_61 : decode cX8_takesItem 61 = .ok (.aload_n 3, 1) := by decide +kernel
theorem dX8_takesItem_62 : decode cX8_takesItem 62 = .ok (.invokevirtual 36, 3) := by decide +kernel
theorem dX8_takesItem_65 : decode cX8_takesItem 65 = .ok (.ireturn, 1) := by decide +kernel
theorem dX8_takesItem_66 : decode cX8_takesItem 66 = .ok (.aload_n 0, 1) := by decide +kernel
theorem dX8_takesItem_67 : decode cX8_takesItem 67 = .ok (.aload_n 3, 1) := by decide +kernel
theorem dX8_takesItem_68 : decode cX8_takesItem 68 = .ok (.invokevirtual 40, 3) := by decide +kernel
theorem dX8_takesItem_71 : decode cX8_takesItem 71 = .ok (.ireturn, 1) := by decide +kernel
theorem dX8_takesItem_72 : decode cX8_takesItem 72 = .ok (.aload_n 0, 1) := by decide +kernel
theorem dX8_takesItem_73 : decode cX8_takesItem 73 = .ok (.aload_n 3, 1) := by decide +kernel
theorem dX8_takesItem_74 : decode cX8_takesItem 74 = .ok (.invokevirtual 43, 3) := by decide +kernel
theorem dX8_takesItem_77 : decode cX8_takesItem 77 = .ok (.ireturn, 1) := by decide +kernel
theorem dX8_takesItem_78 : decode cX8_takesItem 78 = .ok (.aload_n 0, 1) := by decide +kernel
theorem dX8_takesItem_79 : decode cX8_takesItem 79 = .ok (.aload_n 3, 1) := by decide +kernel
theorem dX8_takesItem_80 : decode cX8_takesItem 80 = .ok (.invokevirtual 46, 3) := by decide +kernel
theorem dX8_takesItem_83 : decode cX8_takesItem 83 = .ok (.ireturn, 1) := by decide +kernel
theorem dX8_takesItem_84 : decode cX8_takesItem 84 = .ok (.iconst 0, 1) := by decide +kernel
theorem dX8_takesItem_85 : decode cX8_takesItem 85 = .ok (.ireturn, 1) := by decide +kernel
def fX8_takesItem (a1 : Int) (a2 : Int) (t3 : Nat) (s0 : Mem) : Option Res :=
 bnd (fX8_readNumbers (wr (a1 + 1)) a2 s0) (fun r1 s2 =>
 (if r1 ≠ 0 then
 rd (s2 9) a1 400 (fun v3 =>
 (if v3 = 99 then
 bnd (fX8_takesCopies t3 s2) (fun r4 s5 =>
 zr r4 s5)
 else
 (if v3 = 101 then
 bnd (fX8_takesEffect t3 s2) (fun r6 s7 =>
 zr r6 s7)
 else
 (if v3 = 102 then
 bnd (fX8_takesFade t3 s2) (fun r8 s9 =>
 zr r8 s9)
 else
 (if v3 = 115 then
 bnd (fX8_takesShot t3 s2) (fun r10 s11 =>
 zr r10 s11)
 else
 zr 0 s2)))))
 else
 zr 0 s2))
set_option maxRecDepth 100000 in
set_option maxHeartbeats 4000000 in
theorem mX8_takesItem (l : Launch) (D : va_G) (ad : Nat → Nat) (cA : Nat → ClassId) (a1 : Int) (a2 : Int) (t3 : Nat) (h3 : isSc t3) (s0 : Mem) : MCi l D ad cA yX8_takesItem cX8_takesItem 4 (some .boolean) rmX8_takesItem [.inr (.inr 8), .inl a1, .inl a2, .inr (.inr t3)] s0 (fX8_takesItem a1 a2 t3 s0) := by
  refine MCi_ofE (own := RX8) (ls := [some (.inr (.inr 8)), some (.inl a1), some (.inl a2), some (.inr (.inr t3))]) 0 (by decide +kernel) rfl rfl (fun _ => Nat.le_of_ble_eq_true rfl) (fun K hq => ?_)
  unfold fX8_takesItem
  refine j_aload_n dX8_takesItem_0 rfl rfl ?_
  refine j_iload_n dX8_takesItem_1 rfl rfl ?_
  refine j_iconst dX8_takesItem_2 (inr_d rfl) ?_
  refine j_iadd dX8_takesItem_3 ?_
  refine j_iload_n dX8_takesItem_4 rfl rfl ?_
  refine j_callVi (mX8_readNumbers (kl K) (kD K) (kad K) (kcA K) (wr (a1 + 1)) a2 s0) cw_RX8_32 sh_8 rfl ⟨rfl, rfl, by decide, by decide⟩ rfl rfl (Nat.le_of_ble_eq_true rfl) dX8_takesItem_5 (fun r1 s2 => ?_)
  refine j_if_ne (tgt := 13) dX8_takesItem_8 rfl ?_ ?_
  · refine j_aload_n dX8_takesItem_13 rfl rfl ?_
    refine j_getR fl_RX8_11 sh_8 rfl dX8_takesItem_14 ?_
    refine j_iload_n dX8_takesItem_17 rfl rfl ?_
    refine j_bald sh_9 dX8_takesItem_18 (fun v3 => ?_)
    refine j_if (fun hc0 => ?_) (fun hc0 => ?_)
    · refine j_lsw (tgt := 78) dX8_takesItem_19 rfl (by rw [hc0]) rfl ?_
      refine j_aload_n dX8_takesItem_78 rfl rfl ?_
      refine j_aload_n dX8_takesItem_79 rfl rfl ?_
      refine j_callVi (mX8_takesCopies (kl K) (kD K) (kad K) (kcA K) t3 h3 s2) cw_RX8_46 sh_8 rfl ⟨rfl, rfl, by decide, by decide⟩ rfl rfl (Nat.le_of_ble_eq_true rfl) dX8_takesItem_80 (fun r4 s5 => ?_)
      exact j_zret hq dX8_takesItem_83
    refine j_if (fun hc1 => ?_) (fun hc1 => ?_)
    · refine j_lsw (tgt := 72) dX8_takesItem_19 rfl (by rw [hc1]) rfl ?_
      refine j_aload_n dX8_takesItem_72 rfl rfl ?_
      refine j_aload_n dX8_takesItem_73 rfl rfl ?_
      refine j_callVi (mX8_takesEffect (kl K) (kD K) (kad K) (kcA K) t3 h3 s2) cw_RX8_43 sh_8 rfl ⟨rfl, rfl, by decide, by decide⟩ rfl rfl (Nat.le_of_ble_eq_true rfl) dX8_takesItem_74 (fun r6 s7 => ?_)
      exact j_zret hq dX8_takesItem_77
    refine j_if (fun hc2 => ?_) (fun hc2 => ?_)
    · refine j_lsw (tgt := 66) dX8_takesItem_19 rfl (by rw [hc2]) rfl ?_
      refine j_aload_n dX8_takesItem_66 rfl rfl ?_
      refine j_aload_n dX8_takesItem_67 rfl rfl ?_
      refine j_callVi (mX8_takesFade (kl K) (kD K) (kad K) (kcA K) t3 h3 s2) cw_RX8_40 sh_8 rfl ⟨rfl, rfl, by decide, by decide⟩ rfl rfl (Nat.le_of_ble_eq_true rfl) dX8_takesItem_68 (fun r8 s9 => ?_)
      exact j_zret hq dX8_takesItem_71
    refine j_if (fun hc3 => ?_) (fun hc3 => ?_)
    · refine j_lsw (tgt := 60) dX8_takesItem_19 rfl (by rw [hc3]) rfl ?_
      refine j_aload_n dX8_takesItem_60 rfl rfl ?_
      refine j_aload_n dX8_takesItem_61 rfl rfl ?_
      refine j_callVi (mX8_takesShot (kl K) (kD K) (kad K) (kcA K) t3 h3 s2) cw_RX8_36 sh_8 rfl ⟨rfl, rfl, by decide, by decide⟩ rfl rfl (Nat.le_of_ble_eq_true rfl) dX8_takesItem_62 (fun r10 s11 => ?_)
      exact j_zret hq dX8_takesItem_65
    refine j_lsw (tgt := 84) dX8_takesItem_19 rfl (by simp [Op.lookupswitch.offset, Ne.symm hc0, hc0, Ne.symm hc1, hc1, Ne.symm hc2, hc2, Ne.symm hc3, hc3]; rfl) rfl ?_
    refine j_iconst dX8_takesItem_84 (inr_d rfl) ?_
    exact j_zret hq dX8_takesItem_85
  · refine j_iconst dX8_takesItem_11 (inr_d rfl) ?_
    exact j_zret hq dX8_takesItem_12
abbrev rmX8_readInto : Room := { frames := 4, cells := 0, slots := 0, locals := 93 }
theorem dX8_readInto_0 : decode cX8_readInto 0 = .ok (.aload_n 1, 1) := by decide +kernel
theorem dX8_readInto_1 : decode cX8_readInto 1 = .ok (.invokevirtual 23, 3) := by decide +kernel
theorem dX8_readInto_4 : decode cX8_readInto 4 = .ok (.iconst 0, 1) := by decide +kernel
theorem dX8_readInto_5 : decode cX8_readInto 5 = .ok (.istore_n 2, 1) := by decide +kernel
theorem dX8_readInto_6 : decode cX8_readInto 6 = .ok (.iconst 0, 1) := by decide +kernel
theorem dX8_readInto_7 : decode cX8_readInto 7 = .ok (.istore_n 3, 1) := by decide +kernel
theorem dX8_readInto_8 : decode cX8_readInto 8 = .ok (.iload_n 3, 1) := by decide +kernel
theorem dX8_readInto_9 : decode cX8_readInto 9 = .ok (.aload_n 0, 1) := by decide +kernel
theorem dX8_readInto_10 : decode cX8_readInto 10 = .ok (.getfield 19, 3) := by decide +kernel
theorem dX8_readInto_13 : decode cX8_readInto 13 = .ok (.if_icmp .ge 36, 3) := by decide +kernel
theorem dX8_readInto_16 : decode cX8_readInto 16 = .ok (.aload_n 0, 1) := by decide +kernel
theorem dX8_readInto_17 : decode cX8_readInto 17 = .ok (.getfield 11, 3) := by decide +kernel
theorem dX8_readInto_20 : decode cX8_readInto 20 = .ok (.iload_n 3, 1) := by decide +kernel
theorem dX8_readInto_21 : decode cX8_readInto 21 = .ok (.baload, 1) := by decide +kernel
theorem dX8_readInto_22 : decode cX8_readInto 22 = .ok (.bipush 59, 2) := by decide +kernel
theorem dX8_readInto_24 : decode cX8_readInto 24 = .ok (.if_icmp .ne 19, 3) := by decide +kernel
theorem dX8_readInto_27 : decode cX8_readInto 27 = .ok (.aload_n 0, 1) := by decide +kernel
theorem dX8_readInto_28 : decode cX8_readInto 28 = .ok (.iload_n 2, 1) := by decide +kernel
theorem dX8_readInto_29 : decode cX8_readInto 29 = .ok (.iload_n 3, 1) := by decide +kernel
theorem dX8_readInto_30 : decode cX8_readInto 30 = .ok (.aload_n 1, 1) := by decide +kernel
theorem dX8_readInto_31 : decode cX8_readInto 31 = .ok (.invokevirtual 28, 3) := by decide +kernel
theorem dX8_readInto_34 : decode cX8_readInto 34 = .ok (.ifCond .ne 5, 3) := by decide +kernel
theorem dX8_readInto_37 : decode cX8_readInto 37 = .ok (.iload_n 2, 1) := by decide +kernel
theorem dX8_readInto_38 : decode cX8_readInto 38 = .ok (.ireturn, 1) := by decide +kernel
theorem dX8_readInto_39 : decode cX8_readInto 39 = .ok (.iload_n 3, 1) := by decide +kernel
theorem dX8_readInto_40 : decode cX8_readInto 40 = .ok (.iconst 1, 1) := by decide +kernel
theorem dX8_readInto_41 : decode cX8_readInto 41 = .ok (.iadd, 1) := by decide +kernel
theorem dX8_readInto_42 : decode cX8_readInto 42 = .ok (.istore_n 2, 1) := by decide +kernel
theorem dX8_readInto_43 : decode cX8_readInto 43 = .ok (.iinc 3 1, 3) := by decide +kernel
theorem dX8_readInto_46 : decode cX8_readInto 46 = .ok (.goto (-38), 3) := by decide +kernel
theorem dX8_readInto_49 : decode cX8_readInto 49 = .ok (.iload_n 2, 1) := by decide +kernel
theorem dX8_readInto_50 : decode cX8_readInto 50 = .ok (.aload_n 0, 1) := by decide +kernel
theorem dX8_readInto_51 : decode cX8_readInto 51 = .ok (.getfield 19, 3) := by decide +kernel
theorem dX8_readInto_54 : decode cX8_readInto 54 = .ok (.if_icmp .ge 7, 3) := by decide +kernel
theorem dX8_readInto_57 : decode cX8_readInto 57 = .ok (.iload_n 2, 1) := by decide +kernel
theorem dX8_readInto_58 : decode cX8_readInto 58 = .ok (.goto 5, 3) := by decide +kernel
theorem dX8_readInto_61 : decode cX8_readInto 61 = .ok (.bipush (-4), 2) := by decide +kernel
theorem dX8_readInto_63 : decode cX8_readInto 63 = .ok (.ireturn, 1) := by decide +kernel
def LX8_readInto_8 (t1 : Nat) (k49 : Int → Mem → Option Res) : Nat → Int → Int → Mem → Option Res
  | 0 => fun _ _ _ => none
  | n + 1 => fun x2 x3 s => (if s 8 1 ≤ x3 then
 k49 x2 s
 else
 rd (s 9) x3 400 (fun v3 =>
 (if v3 ≠ 59 then
 LX8_readInto_8 t1 k49 n x2 (wr (x3 + 1)) s
 else
 bnd (fX8_takesItem x2 x3 t1 s) (fun r4 s5 =>
 (if r4 ≠ 0 then
 lt (wr (x3 + 1)) (fun v6 =>
 LX8_readInto_8 t1 k49 n v6 (wr (x3 + 1)) s5)
 else
 some (x2, s5))))))
def fX8_readInto (t1 : Nat) (s0 : Mem) : Option Res :=
 bnd (fX6_empty t1 s0) (fun _ s2 =>
 LX8_readInto_8 t1 (fun y8 s7 =>
 (if s7 8 1 ≤ y8 then
 some ((-4), s7)
 else
 some (y8, s7))) FU 0 0 s2)
set_option maxRecDepth 100000 in
set_option maxHeartbeats 4000000 in
theorem jLX8_readInto_8 {K : KT} (hq : KI K (some .int)) (t1 : Nat) (h1 : isSc t1) (k49 : Int → Mem → Option Res) (hk49 : ∀ (y2 : Int) (s : Mem), J K rmX8_readInto cX8_readInto RX8 4 49 [some (.inr (.inr 8)), none, some (.inl y2), none] [] s (k49 y2 s)) : ∀ (n : Nat) (x2 : Int) (x3 : Int) (s : Mem), J K rmX8_readInto cX8_readInto RX8 4 8 [some (.inr (.inr 8)), some (.inr (.inr t1)), some (.inl x2), some (.inl x3)] [] s (LX8_readInto_8 t1 k49 n x2 x3 s) := by
  intro n
  induction n with
  | zero => intros; exact J_none
  | succ n ih =>
    intro x2 x3 s
    show J K _ _ _ _ _ _ _ _ (LX8_readInto_8 t1 k49 (n + 1) x2 x3 s)
    simp only [LX8_readInto_8]
    refine j_iload_n dX8_readInto_8 rfl rfl ?_
    refine j_aload_n dX8_readInto_9 rfl rfl ?_
    refine j_getI fl_RX8_19 sh_8 rfl dX8_readInto_10 ?_
    refine j_icmp_ge (tgt := 49) dX8_readInto_13 rfl ?_ ?_
    · exact j_msk [true, false, true, false] (hk49 _ _)
    · refine j_aload_n dX8_readInto_16 rfl rfl ?_
      refine j_getR fl_RX8_11 sh_8 rfl dX8_readInto_17 ?_
      refine j_iload_n dX8_readInto_20 rfl rfl ?_
      refine j_bald sh_9 dX8_readInto_21 (fun v3 => ?_)
      refine j_bipush (v := 59) dX8_readInto_22 (by decide +kernel) (inr_d rfl) ?_
      refine j_icmp_ne (tgt := 43) dX8_readInto_24 rfl ?_ ?_
      · refine j_iincE (ls2 := [some (.inr (.inr 8)), some (.inr (.inr t1)), some (.inl x2), some (.inl (wr (x3 + 1)))]) dX8_readInto_43 rfl (by decide) rfl rfl ?_
        refine j_goto (tgt := 8) dX8_readInto_46 rfl ?_
        exact j_msk [true, true, true, true] (ih _ _ _)
      · refine j_aload_n dX8_readInto_27 rfl rfl ?_
        refine j_iload_n dX8_readInto_28 rfl rfl ?_
        refine j_iload_n dX8_readInto_29 rfl rfl ?_
        refine j_aload_n dX8_readInto_30 rfl rfl ?_
        refine j_callVi (mX8_takesItem (kl K) (kD K) (kad K) (kcA K) x2 x3 t1 h1 s) cw_RX8_28 sh_8 rfl ⟨rfl, rfl, by decide, by decide⟩ rfl rfl (Nat.le_of_ble_eq_true rfl) dX8_readInto_31 (fun r4 s5 => ?_)
        refine j_if_ne (tgt := 39) dX8_readInto_34 rfl ?_ ?_
        · refine j_iload_n dX8_readInto_39 rfl rfl ?_
          refine j_iconst dX8_readInto_40 (inr_d rfl) ?_
          refine j_iadd dX8_readInto_41 ?_
          refine j_ltv (fun v6 => ?_)
          refine j_istore_nE (ls2 := [some (.inr (.inr 8)), some (.inr (.inr t1)), some (.inl v6), some (.inl x3)]) dX8_readInto_42 rfl (by decide) rfl rfl ?_
          refine j_iincE (ls2 := [some (.inr (.inr 8)), some (.inr (.inr t1)), some (.inl v6), some (.inl (wr (x3 + 1)))]) dX8_readInto_43 rfl (by decide) rfl rfl ?_
          refine j_goto (tgt := 8) dX8_readInto_46 rfl ?_
          exact j_msk [true, true, true, true] (ih _ _ _)
        · refine j_iload_n dX8_readInto_37 rfl rfl ?_
          exact j_iret hq dX8_readInto_38
set_option maxRecDepth 100000 in
set_option maxHeartbeats 4000000 in
theorem mX8_readInto (l : Launch) (D : va_G) (ad : Nat → Nat) (cA : Nat → ClassId) (t1 : Nat) (h1 : isSc t1) (s0 : Mem) : MCi l D ad cA yX8_readInto cX8_readInto 4 (some .int) rmX8_readInto [.inr (.inr 8), .inr (.inr t1)] s0 (fX8_readInto t1 s0) := by
  refine MCi_ofE (own := RX8) (ls := [some (.inr (.inr 8)), some (.inr (.inr t1)), none, none]) 2 (by decide +kernel) rfl rfl (fun _ => Nat.le_of_ble_eq_true rfl) (fun K hq => ?_)
  unfold fX8_readInto
  refine j_aload_n dX8_readInto_0 rfl rfl ?_
  refine j_callVv (mX6_empty (kl K) (kD K) (kad K) (kcA K) t1 h1 s0) cw_RX8_23 (sc_o h1) rfl ⟨rfl, rfl, by decide, by decide⟩ rfl rfl (Nat.le_of_ble_eq_true rfl) dX8_readInto_1 (fun _ s2 => ?_)
  refine j_iconst dX8_readInto_4 (inr_d rfl) ?_
  refine j_istore_nE (ls2 := [some (.inr (.inr 8)), some (.inr (.inr t1)), some (.inl 0), none]) dX8_readInto_5 rfl (by decide) rfl rfl ?_
  refine j_iconst dX8_readInto_6 (inr_d rfl) ?_
  refine j_istore_nE (ls2 := [some (.inr (.inr 8)), some (.inr (.inr t1)), some (.inl 0), some (.inl 0)]) dX8_readInto_7 rfl (by decide) rfl rfl ?_
  refine j_msk [true, true, true, true] (jLX8_readInto_8 hq t1 h1 _ (fun y8 s7 => ?_) _ _ _ _)
  refine j_iload_n dX8_readInto_49 rfl rfl ?_
  refine j_aload_n dX8_readInto_50 rfl rfl ?_
  refine j_getI fl_RX8_19 sh_8 rfl dX8_readInto_51 ?_
  refine j_icmp_ge (tgt := 61) dX8_readInto_54 rfl ?_ ?_
  · refine j_bipush (v := (-4)) dX8_readInto_61 (by decide +kernel) (inr_d rfl) ?_
    exact j_iret hq dX8_readInto_63
  · refine j_iload_n dX8_readInto_57 rfl rfl ?_
    refine j_goto (tgt := 63) dX8_readInto_58 rfl ?_
    exact j_iret hq dX8_readInto_63
abbrev rmX10_swap : Room := { frames := 0, cells := 0, slots := 0, locals := 0 }
theorem dX10_swap_0 : decode cX10_swap 0 = .ok (.aload_n 0, 1) := by decide +kernel
theorem dX10_swap_1 : decode cX10_swap 1 = .ok (.iload_n 1, 1) := by decide +kernel
theorem dX10_swap_2 : decode cX10_swap 2 = .ok (.iaload, 1) := by decide +kernel
theorem dX10_swap_3 : decode cX10_swap 3 = .ok (.istore_n 3, 1) := by decide +kernel
theorem dX10_swap_4 : decode cX10_swap 4 = .ok (.aload_n 0, 1) := by decide +kernel
theorem dX10_swap_5 : decode cX10_swap 5 = .ok (.iload_n 1, 1) := by decide +kernel
theorem dX10_swap_6 : decode cX10_swap 6 = .ok (.iload_n 2, 1) := by decide +kernel
theorem dX10_swap_7 : decode cX10_swap 7 = .ok (.iastore, 1) := by decide +kernel
theorem dX10_swap_8 : decode cX10_swap 8 = .ok (.iload_n 3, 1) := by decide +kernel
theorem dX10_swap_9 : decode cX10_swap 9 = .ok (.ireturn, 1) := by decide +kernel
def fX10_swap (q0 z0 : Nat) (a1 : Int) (a2 : Int) (s0 : Mem) : Option Res :=
 rd (s0 q0) a1 z0 (fun v1 =>
 ST s0 q0 a1 z0 a2 (fun s2 =>
 some (v1, s2)))
set_option maxRecDepth 100000 in
set_option maxHeartbeats 4000000 in
theorem mX10_swap (l : Launch) (D : va_G) (ad : Nat → Nat) (cA : Nat → ClassId) (q0 z0 : Nat) (hq0 : SH q0 = some (.inl (0, z0))) (hn0 : z0 < 2147483648) (a1 : Int) (a2 : Int) (s0 : Mem) : MCi l D ad cA yX10_swap cX10_swap 4 (some .int) rmX10_swap [.inr (.inr q0), .inl a1, .inl a2] s0 (fX10_swap q0 z0 a1 a2 s0) := by
  refine MCi_ofE (own := RX10) (ls := [some (.inr (.inr q0)), some (.inl a1), some (.inl a2), none]) 1 (by decide +kernel) rfl rfl (fun _ => Nat.le_of_ble_eq_true rfl) (fun K hq => ?_)
  unfold fX10_swap
  refine j_aload_n dX10_swap_0 rfl rfl ?_
  refine j_iload_n dX10_swap_1 rfl rfl ?_
  refine j_iald hq0 dX10_swap_2 (fun v1 => ?_)
  refine j_istore_nE (ls2 := [some (.inr (.inr q0)), some (.inl a1), some (.inl a2), some (.inl v1)]) dX10_swap_3 rfl (by decide) rfl rfl ?_
  refine j_aload_n dX10_swap_4 rfl rfl ?_
  refine j_iload_n dX10_swap_5 rfl rfl ?_
  refine j_iload_n dX10_swap_6 rfl rfl ?_
  refine j_iast hq0 dX10_swap_7 (fun s2 => ?_)
  refine j_iload_n dX10_swap_8 rfl rfl ?_
  exact j_iret hq dX10_swap_9
abbrev rmX9_tell : Room := { frames := 1, cells := 0, slots := 0, locals := 23 }
theorem dX9_tell_0 : decode cX9_tell 0 = .ok (.iload_n 1, 1) := by decide +kernel
theorem dX9_tell_1 : decode cX9_tell 1 = .ok (.iload_n 2, 1) := by decide +kernel
theorem dX9_tell_2 : decode cX9_tell 2 = .ok (.invokestatic 30, 3) := by decide +kernel
theorem dX9_tell_5 : decode cX9_tell 5 = .ok (.iload_n 3, 1) := by decide +kernel
theorem dX9_tell_6 : decode cX9_tell 6 = .ok (.iadd, 1) := by decide +kernel
theorem dX9_tell_7 : decode cX9_tell 7 = .ok (.istore 5, 2) := by decide +kernel
theorem dX9_tell_9 : decode cX9_tell 9 = .ok (.iload_n 3, 1) := by decide +kernel
theorem dX9_tell_10 : decode cX9_tell 10 = .ok (.ifCond .le 20, 3) := by decide +kernel
theorem dX9_tell_13 : decode cX9_tell 13 = .ok (.iload 4, 2) := by decide +kernel
theorem dX9_tell_15 : decode cX9_tell 15 = .ok (.aload_n 0, 1) := by decide +kernel
theorem dX9_tell_16 : decode cX9_tell 16 = .ok (.getfield 11, 3) := by decide +kernel
theorem dX9_tell_19 : decode cX9_tell 19 = .ok (.iload 5, 2) := by decide +kernel
theorem dX9_tell_21 : decode cX9_tell 21 = .ok (.iconst 1, 1) := by decide +kernel
theorem dX9_tell_22 : decode cX9_tell 22 = .ok (.isub, 1) := by decide +kernel
theorem dX9_tell_23 : decode cX9_tell 23 = .ok (.iaload, 1) := by decide +kernel
theorem dX9_tell_24 : decode cX9_tell 24 = .ok (.if_icmp .ge 6, 3) := by decide +kernel
theorem dX9_tell_27 : decode cX9_tell 27 = .ok (.bipush (-2), 2) := by decide +kernel
theorem dX9_tell_29 : decode cX9_tell 29 = .ok (.ireturn, 1) := by decide +kernel
theorem dX9_tell_30 : decode cX9_tell 30 = .ok (.iload_n 3, 1) := by decide +kernel
theorem dX9_tell_31 : decode cX9_tell 31 = .ok (.bipush 8, 2) := by decide +kernel
theorem dX9_tell_33 : decode cX9_tell 33 = .ok (.if_icmp .ge 20, 3) := by decide +kernel
theorem dX9_tell_36 : decode cX9_tell 36 = .ok (.iload 4, 2) := by decide +kernel
theorem dX9_tell_38 : decode cX9_tell 38 = .ok (.aload_n 0, 1) := by decide +kernel
theorem dX9_tell_39 : decode cX9_tell 39 = .ok (.getfield 11, 3) := by decide +kernel
theorem dX9_tell_42 : decode cX9_tell 42 = .ok (.iload 5, 2) := by decide +kernel
theorem dX9_tell_44 : decode cX9_tell 44 = .ok (.iconst 1, 1) := by decide +kernel
theorem dX9_tell_45 : decode cX9_tell 45 = .ok (.iadd, 1) := by decide +kernel
theorem dX9_tell_46 : decode cX9_tell 46 = .ok (.iaload, 1) := by decide +kernel
theorem dX9_tell_47 : decode cX9_tell 47 = .ok (.if_icmp .le 6, 3) := by decide +kernel
theorem dX9_tell_50 : decode cX9_tell 50 = .ok (.bipush (-2), 2) := by decide +kernel
theorem dX9_tell_52 : decode cX9_tell 52 = .ok (.ireturn, 1) := by decide +kernel
theorem dX9_tell_53 : decode cX9_tell 53 = .ok (.aload_n 0, 1) := by decide +kernel
theorem dX9_tell_54 : decode cX9_tell 54 = .ok (.getfield 11, 3) := by decide +kernel
theorem dX9_tell_57 : decode cX9_tell 57 = .ok (.iload 5, 2) := by decide +kernel
theorem dX9_tell_59 : decode cX9_tell 59 = .ok (.iload 4, 2) := by decide +kernel
theorem dX9_tell_61 : decode cX9_tell 61 = .ok (.invokestatic 34, 3) := by decide +kernel
theorem dX9_tell_64 : decode cX9_tell 64 = .ok (.ireturn, 1) := by decide +kernel
def fX9_tell (a1 : Int) (a2 : Int) (a3 : Int) (a4 : Int) (s0 : Mem) : Option Res :=
 bnd (fX9_tableStart a1 a2 s0) (fun r1 s2 =>
 lt (wr (r1 + a3)) (fun v3 =>
 jn (fun (s4 : Mem) =>
 jn (fun (s5 : Mem) =>
 bnd (fX10_swap 2 81 v3 a4 s5) (fun r6 s7 =>
 some (r6, s7))) (fun k53 =>
 (if 8 ≤ a3 then
 k53 s4
 else
 rd (s4 2) (wr (v3 + 1)) 81 (fun v8 =>
 (if a4 ≤ v8 then
 k53 s4
 else
 some ((-2), s4)))))) (fun k30 =>
 (if a3 ≤ 0 then
 k30 s2
 else
 rd (s2 2) (wr (v3 - 1)) 81 (fun v9 =>
 (if v9 ≤ a4 then
 k30 s2
 else
 some ((-2), s2)))))))
set_option maxRecDepth 100000 in
set_option maxHeartbeats 4000000 in
theorem mX9_tell (l : Launch) (D : va_G) (ad : Nat → Nat) (cA : Nat → ClassId) (a1 : Int) (a2 : Int) (a3 : Int) (a4 : Int) (s0 : Mem) : MCi l D ad cA yX9_tell cX9_tell 6 (some .int) rmX9_tell [.inr (.inr 1), .inl a1, .inl a2, .inl a3, .inl a4] s0 (fX9_tell a1 a2 a3 a4 s0) := by
  refine MCi_ofE (own := RX9) (ls := [some (.inr (.inr 1)), some (.inl a1), some (.inl a2), some (.inl a3), some (.inl a4), none]) 1 (by decide +kernel) rfl rfl (fun _ => Nat.le_of_ble_eq_true rfl) (fun K hq => ?_)
  unfold fX9_tell
  refine j_iload_n dX9_tell_0 rfl rfl ?_
  refine j_iload_n dX9_tell_1 rfl rfl ?_
  refine j_callSi (mX9_tableStart (kl K) (kD K) (kad K) (kcA K) a1 a2 s0) cw_RX9_30 ⟨rfl, rfl, by decide, by decide⟩ rfl rfl (Nat.le_of_ble_eq_true rfl) dX9_tell_2 (fun r1 s2 => ?_)
  refine j_iload_n dX9_tell_5 rfl rfl ?_
  refine j_iadd dX9_tell_6 ?_
  refine j_ltv (fun v3 => ?_)
  refine j_istoreE (ls2 := [some (.inr (.inr 1)), some (.inl a1), some (.inl a2), some (.inl a3), some (.inl a4), some (.inl v3)]) dX9_tell_7 (by decide) rfl rfl ?_
  refine j_iload_n dX9_tell_9 rfl rfl ?_
  refine j_jn (fun k30 => ∀ (s4 : Mem), J K rmX9_tell cX9_tell RX9 6 30 [some (.inr (.inr 1)), none, none, some (.inl a3), some (.inl a4), some (.inl v3)] [] s4 (k30 s4)) (fun s4 => ?_) (fun k30 hk30 => ?_)
  · refine j_iload_n dX9_tell_30 rfl rfl ?_
    refine j_bipush (v := 8) dX9_tell_31 (by decide +kernel) (inr_d rfl) ?_
    refine j_jn (fun k53 => ∀ (s5 : Mem), J K rmX9_tell cX9_tell RX9 6 53 [some (.inr (.inr 1)), none, none, none, some (.inl a4), some (.inl v3)] [] s5 (k53 s5)) (fun s5 => ?_) (fun k53 hk53 => ?_)
    · refine j_aload_n dX9_tell_53 rfl rfl ?_
      refine j_getR fl_RX9_11 sh_1 rfl dX9_tell_54 ?_
      refine j_iload dX9_tell_57 rfl ?_
      refine j_iload dX9_tell_59 rfl ?_
      refine j_callNi (mX10_swap (kl K) (kD K) (kad K) (kcA K) 2 81 sh_2 (by decide) v3 a4 s5) cw_RX9_34 ⟨rfl, rfl, by decide, by decide⟩ rfl rfl (Nat.le_of_ble_eq_true rfl) dX9_tell_61 (fun r6 s7 => ?_)
      exact j_iret hq dX9_tell_64
    refine j_icmp_ge (tgt := 53) dX9_tell_33 rfl ?_ ?_
    · exact j_msk [true, false, false, false, true, true] (hk53 _)
    · refine j_iload dX9_tell_36 rfl ?_
      refine j_aload_n dX9_tell_38 rfl rfl ?_
      refine j_getR fl_RX9_11 sh_1 rfl dX9_tell_39 ?_
      refine j_iload dX9_tell_42 rfl ?_
      refine j_iconst dX9_tell_44 (inr_d rfl) ?_
      refine j_iadd dX9_tell_45 ?_
      refine j_iald sh_2 dX9_tell_46 (fun v8 => ?_)
      refine j_icmp_le (tgt := 53) dX9_tell_47 rfl ?_ ?_
      · exact j_msk [true, false, false, false, true, true] (hk53 _)
      · refine j_bipush (v := (-2)) dX9_tell_50 (by decide +kernel) (inr_d rfl) ?_
        exact j_iret hq dX9_tell_52
  refine j_if_le (tgt := 30) dX9_tell_10 rfl ?_ ?_
  · exact j_msk [true, false, false, true, true, true] (hk30 _)
  · refine j_iload dX9_tell_13 rfl ?_
    refine j_aload_n dX9_tell_15 rfl rfl ?_
    refine j_getR fl_RX9_11 sh_1 rfl dX9_tell_16 ?_
    refine j_iload dX9_tell_19 rfl ?_
    refine j_iconst dX9_tell_21 (inr_d rfl) ?_
    refine j_isub dX9_tell_22 ?_
    refine j_iald sh_2 dX9_tell_23 (fun v9 => ?_)
    refine j_icmp_ge (tgt := 30) dX9_tell_24 rfl ?_ ?_
    · exact j_msk [true, false, false, true, true, true] (hk30 _)
    · refine j_bipush (v := (-2)) dX9_tell_27 (by decide +kernel) (inr_d rfl) ?_
      exact j_iret hq dX9_tell_29
abbrev rmX9_pass : Room := { frames := 1, cells := 0, slots := 0, locals := 21 }
theorem dX9_pass_0 : decode cX9_pass 0 = .ok (.aload_n 0, 1) := by decide +kernel
theorem dX9_pass_1 : decode cX9_pass 1 = .ok (.getfield 21, 3) := by decide +kernel
theorem dX9_pass_4 : decode cX9_pass 4 = .ok (.iload_n 1, 1) := by decide +kernel
theorem dX9_pass_5 : decode cX9_pass 5 = .ok (.iaload, 1) := by decide +kernel
theorem dX9_pass_6 : decode cX9_pass 6 = .ok (.istore_n 3, 1) := by decide +kernel
theorem dX9_pass_7 : decode cX9_pass 7 = .ok (.aload_n 0, 1) := by decide +kernel
theorem dX9_pass_8 : decode cX9_pass 8 = .ok (.getfield 21, 3) := by decide +kernel
theorem dX9_pass_11 : decode cX9_pass 11 = .ok (.iload_n 1, 1) := by decide +kernel
theorem dX9_pass_12 : decode cX9_pass 12 = .ok (.iload_n 3, 1) := by decide +kernel
theorem dX9_pass_13 : decode cX9_pass 13 = .ok (.iload_n 2, 1) := by decide +kernel
theorem dX9_pass_14 : decode cX9_pass 14 = .ok (.iadd, 1) := by decide +kernel
theorem dX9_pass_15 : decode cX9_pass 15 = .ok (.iastore, 1) := by decide +kernel
theorem dX9_pass_16 : decode cX9_pass 16 = .ok (.aload_n 0, 1) := by decide +kernel
theorem dX9_pass_17 : decode cX9_pass 17 = .ok (.getfield 21, 3) := by decide +kernel
theorem dX9_pass_20 : decode cX9_pass 20 = .ok (.iload_n 1, 1) := by decide +kernel
theorem dX9_pass_21 : decode cX9_pass 21 = .ok (.iaload, 1) := by decide +kernel
theorem dX9_pass_22 : decode cX9_pass 22 = .ok (.bipush 100, 2) := by decide +kernel
theorem dX9_pass_24 : decode cX9_pass 24 = .ok (.idiv, 1) := by decide +kernel
theorem dX9_pass_25 : decode cX9_pass 25 = .ok (.iload_n 3, 1) := by decide +kernel
theorem dX9_pass_26 : decode cX9_pass 26 = .ok (.bipush 100, 2) := by decide +kernel
theorem dX9_pass_28 : decode cX9_pass 28 = .ok (.idiv, 1) := by decide +kernel
theorem dX9_pass_29 : decode cX9_pass 29 = .ok (.isub, 1) := by decide +kernel
theorem dX9_pass_30 : decode cX9_pass 30 = .ok (.istore 4, 2) := by decide +kernel
theorem dX9_pass_32 : decode cX9_pass 32 = .ok (.aload_n 0, 1) := by decide +kernel
theorem dX9_pass_33 : decode cX9_pass 33 = .ok (.getfield 15, 3) := by decide +kernel
theorem dX9_pass_36 : decode cX9_pass 36 = .ok (.iload_n 1, 1) := by decide +kernel
theorem dX9_pass_37 : decode cX9_pass 37 = .ok (.iconst 0, 1) := by decide +kernel
theorem dX9_pass_38 : decode cX9_pass 38 = .ok (.aload_n 0, 1) := by decide +kernel
theorem dX9_pass_39 : decode cX9_pass 39 = .ok (.getfield 15, 3) := by decide +kernel
theorem dX9_pass_42 : decode cX9_pass 42 = .ok (.iload_n 1, 1) := by decide +kernel
theorem dX9_pass_43 : decode cX9_pass 43 = .ok (.iaload, 1) := by decide +kernel
theorem dX9_pass_44 : decode cX9_pass 44 = .ok (.iload 4, 2) := by decide +kernel
theorem dX9_pass_46 : decode cX9_pass 46 = .ok (.aload_n 0, 1) := by decide +kernel
theorem dX9_pass_47 : decode cX9_pass 47 = .ok (.getfield 18, 3) := by decide +kernel
theorem dX9_pass_50 : decode cX9_pass 50 = .ok (.iload_n 1, 1) := by decide +kernel
theorem dX9_pass_51 : decode cX9_pass 51 = .ok (.iaload, 1) := by decide +kernel
theorem dX9_pass_52 : decode cX9_pass 52 = .ok (.imul, 1) := by decide +kernel
theorem dX9_pass_53 : decode cX9_pass 53 = .ok (.isub, 1) := by decide +kernel
theorem dX9_pass_54 : decode cX9_pass 54 = .ok (.invokestatic 43, 3) := by decide +kernel
theorem dX9_pass_57 : decode cX9_pass 57 = .ok (.iastore, 1) := by decide +kernel
theorem dX9_pass_58 : decode cX9_pass 58 = .ok (.return_, 1) := by decide +kernel
def fX9_pass (a1 : Int) (a2 : Int) (s0 : Mem) : Option Res :=
 rd (s0 5) a1 2 (fun v1 =>
 ST s0 5 a1 2 (wr (v1 + a2)) (fun s2 =>
 rd (s2 5) a1 2 (fun v3 =>
 lt (wr ((Int.tdiv v3 100) - (Int.tdiv v1 100))) (fun v4 =>
 rd (s2 3) a1 2 (fun v5 =>
 rd (s2 4) a1 2 (fun v6 =>
 ST s2 3 a1 2 (mx 0 (wr (v5 - (wr (v4 * v6))))) (fun s7 =>
 some (0, s7))))))))
set_option maxRecDepth 100000 in
set_option maxHeartbeats 4000000 in
theorem mX9_pass (l : Launch) (D : va_G) (ad : Nat → Nat) (cA : Nat → ClassId) (a1 : Int) (a2 : Int) (s0 : Mem) : MCv l D ad cA yX9_pass cX9_pass 5 none rmX9_pass [.inr (.inr 1), .inl a1, .inl a2] s0 (fX9_pass a1 a2 s0) := by
  refine MCv_ofE (own := RX9) (ls := [some (.inr (.inr 1)), some (.inl a1), some (.inl a2), none, none]) 2 (by decide +kernel) rfl rfl (fun _ => Nat.le_of_ble_eq_true rfl) (fun K hq => ?_)
  unfold fX9_pass
  refine j_aload_n dX9_pass_0 rfl rfl ?_
  refine j_getR fl_RX9_21 sh_1 rfl dX9_pass_1 ?_
  refine j_iload_n dX9_pass_4 rfl rfl ?_
  refine j_iald sh_5 dX9_pass_5 (fun v1 => ?_)
  refine j_istore_nE (ls2 := [some (.inr (.inr 1)), some (.inl a1), some (.inl a2), some (.inl v1), none]) dX9_pass_6 rfl (by decide) rfl rfl ?_
  refine j_aload_n dX9_pass_7 rfl rfl ?_
  refine j_getR fl_RX9_21 sh_1 rfl dX9_pass_8 ?_
  refine j_iload_n dX9_pass_11 rfl rfl ?_
  refine j_iload_n dX9_pass_12 rfl rfl ?_
  refine j_iload_n dX9_pass_13 rfl rfl ?_
  refine j_iadd dX9_pass_14 ?_
  refine j_iast sh_5 dX9_pass_15 (fun s2 => ?_)
  refine j_aload_n dX9_pass_16 rfl rfl ?_
  refine j_getR fl_RX9_21 sh_1 rfl dX9_pass_17 ?_
  refine j_iload_n dX9_pass_20 rfl rfl ?_
  refine j_iald sh_5 dX9_pass_21 (fun v3 => ?_)
  refine j_bipush (v := 100) dX9_pass_22 (by decide +kernel) (inr_d rfl) ?_
  refine j_idiv_p dX9_pass_24 (by decide) ?_
  refine j_iload_n dX9_pass_25 rfl rfl ?_
  refine j_bipush (v := 100) dX9_pass_26 (by decide +kernel) (inr_d rfl) ?_
  refine j_idiv_p dX9_pass_28 (by decide) ?_
  refine j_isub dX9_pass_29 ?_
  refine j_ltv (fun v4 => ?_)
  refine j_istoreE (ls2 := [some (.inr (.inr 1)), some (.inl a1), some (.inl a2), some (.inl v1), some (.inl v4)]) dX9_pass_30 (by decide) rfl rfl ?_
  refine j_aload_n dX9_pass_32 rfl rfl ?_
  refine j_getR fl_RX9_15 sh_1 rfl dX9_pass_33 ?_
  refine j_iload_n dX9_pass_36 rfl rfl ?_
  refine j_iconst dX9_pass_37 (inr_d rfl) ?_
  refine j_aload_n dX9_pass_38 rfl rfl ?_
  refine j_getR fl_RX9_15 sh_1 rfl dX9_pass_39 ?_
  refine j_iload_n dX9_pass_42 rfl rfl ?_
  refine j_iald sh_3 dX9_pass_43 (fun v5 => ?_)
  refine j_iload dX9_pass_44 rfl ?_
  refine j_aload_n dX9_pass_46 rfl rfl ?_
  refine j_getR fl_RX9_18 sh_1 rfl dX9_pass_47 ?_
  refine j_iload_n dX9_pass_50 rfl rfl ?_
  refine j_iald sh_4 dX9_pass_51 (fun v6 => ?_)
  refine j_imul dX9_pass_52 ?_
  refine j_isub dX9_pass_53 ?_
  refine j_max mw_RX9_43 ⟨by decide, Nat.le_of_ble_eq_true rfl⟩ dX9_pass_54 ?_
  refine j_iast sh_3 dX9_pass_57 (fun s7 => ?_)
  exact j_vret hq dX9_pass_58
abbrev rmX9_densityOf : Room := { frames := 1, cells := 0, slots := 0, locals := 21 }
theorem dX9_densityOf_0 : decode cX9_densityOf 0 = .ok (.bipush 60, 2) := by decide +kernel
theorem dX9_densityOf_2 : decode cX9_densityOf 2 = .ok (.bipush 60, 2) := by decide +kernel
theorem dX9_densityOf_4 : decode cX9_densityOf 4 = .ok (.iload_n 0, 1) := by decide +kernel
theorem dX9_densityOf_5 : decode cX9_densityOf 5 = .ok (.iconst 5, 1) := by decide +kernel
theorem dX9_densityOf_6 : decode cX9_densityOf 6 = .ok (.idiv, 1) := by decide +kernel
theorem dX9_densityOf_7 : decode cX9_densityOf 7 = .ok (.invokestatic 57, 3) := by decide +kernel
theorem dX9_densityOf_10 : decode cX9_densityOf 10 = .ok (.isub, 1) := by decide +kernel
theorem dX9_densityOf_11 : decode cX9_densityOf 11 = .ok (.ireturn, 1) := by decide +kernel
def fX9_densityOf (a0 : Int) (s0 : Mem) : Option Res :=
 some (wr (60 - (mn 60 (Int.tdiv a0 5))), s0)
set_option maxRecDepth 100000 in
set_option maxHeartbeats 4000000 in
theorem mX9_densityOf (l : Launch) (D : va_G) (ad : Nat → Nat) (cA : Nat → ClassId) (a0 : Int) (s0 : Mem) : MCi l D ad cA yX9_densityOf cX9_densityOf 1 (some .int) rmX9_densityOf [.inl a0] s0 (fX9_densityOf a0 s0) := by
  refine MCi_ofE (own := RX9) (ls := [some (.inl a0)]) 0 (by decide +kernel) rfl rfl (fun _ => Nat.le_of_ble_eq_true rfl) (fun K hq => ?_)
  unfold fX9_densityOf
  refine j_bipush (v := 60) dX9_densityOf_0 (by decide +kernel) (inr_d rfl) ?_
  refine j_bipush (v := 60) dX9_densityOf_2 (by decide +kernel) (inr_d rfl) ?_
  refine j_iload_n dX9_densityOf_4 rfl rfl ?_
  refine j_iconst dX9_densityOf_5 (inr_d rfl) ?_
  refine j_idiv_p dX9_densityOf_6 (by decide) ?_
  refine j_min mw_RX9_57 ⟨by decide, Nat.le_of_ble_eq_true rfl⟩ dX9_densityOf_7 ?_
  refine j_isub dX9_densityOf_10 ?_
  exact j_iret hq dX9_densityOf_11
abbrev rmX10_isStock : Room := { frames := 1, cells := 0, slots := 0, locals := 22 }
theorem dX10_isStock_0 : decode cX10_isStock 0 = .ok (.iload_n 0, 1) := by decide +kernel
theorem dX10_isStock_1 : decode cX10_isStock 1 = .ok (.iconst 0, 1) := by decide +kernel
theorem dX10_isStock_2 : decode cX10_isStock 2 = .ok (.iconst 2, 1) := by decide +kernel
theorem dX10_isStock_3 : decode cX10_isStock 3 = .ok (.invokestatic 97, 3) := by decide +kernel
theorem dX10_isStock_6 : decode cX10_isStock 6 = .ok (.ireturn, 1) := by decide +kernel
def fX10_isStock (a0 : Int) (s0 : Mem) : Option Res :=
 bnd (fX10_isWithin a0 0 2 s0) (fun r1 s2 =>
 zr r1 s2)
set_option maxRecDepth 100000 in
set_option maxHeartbeats 4000000 in
theorem mX10_isStock (l : Launch) (D : va_G) (ad : Nat → Nat) (cA : Nat → ClassId) (a0 : Int) (s0 : Mem) : MCi l D ad cA yX10_isStock cX10_isStock 1 (some .boolean) rmX10_isStock [.inl a0] s0 (fX10_isStock a0 s0) := by
  refine MCi_ofE (own := RX10) (ls := [some (.inl a0)]) 0 (by decide +kernel) rfl rfl (fun _ => Nat.le_of_ble_eq_true rfl) (fun K hq => ?_)
  unfold fX10_isStock
  refine j_iload_n dX10_isStock_0 rfl rfl ?_
  refine j_iconst dX10_isStock_1 (inr_d rfl) ?_
  refine j_iconst dX10_isStock_2 (inr_d rfl) ?_
  refine j_callSi (mX10_isWithin (kl K) (kD K) (kad K) (kcA K) a0 0 2 s0) cw_RX10_97 ⟨rfl, rfl, by decide, by decide⟩ rfl rfl (Nat.le_of_ble_eq_true rfl) dX10_isStock_3 (fun r1 s2 => ?_)
  exact j_zret hq dX10_isStock_6
abbrev rmX10_isColour : Room := { frames := 1, cells := 0, slots := 0, locals := 22 }
theorem dX10_isColour_0 : decode cX10_isColour 0 = .ok (.iload_n 0, 1) := by decide +kernel
theorem dX10_isColour_1 : decode cX10_isColour 1 = .ok (.iconst 0, 1) := by decide +kernel
theorem dX10_isColour_2 : decode cX10_isColour 2 = .ok (.iconst 2, 1) := by decide +kernel
theorem dX10_isColour_3 : decode cX10_isColour 3 = .ok (.invokestatic 97, 3) := by decide +kernel
theorem dX10_isColour_6 : decode cX10_isColour 6 = .ok (.ireturn, 1) := by decide +kernel
def fX10_isColour (a0 : Int) (s0 : Mem) : Option Res :=
 bnd (fX10_isWithin a0 0 2 s0) (fun r1 s2 =>
 zr r1 s2)
set_option maxRecDepth 100000 in
set_option maxHeartbeats 4000000 in
theorem mX10_isColour (l : Launch) (D : va_G) (ad : Nat → Nat) (cA : Nat → ClassId) (a0 : Int) (s0 : Mem) : MCi l D ad cA yX10_isColour cX10_isColour 1 (some .boolean) rmX10_isColour [.inl a0] s0 (fX10_isColour a0 s0) := by
  refine MCi_ofE (own := RX10) (ls := [some (.inl a0)]) 0 (by decide +kernel) rfl rfl (fun _ => Nat.le_of_ble_eq_true rfl) (fun K hq => ?_)
  unfold fX10_isColour
  refine j_iload_n dX10_isColour_0 rfl rfl ?_
  refine j_iconst dX10_isColour_1 (inr_d rfl) ?_
  refine j_iconst dX10_isColour_2 (inr_d rfl) ?_
  refine j_callSi (mX10_isWithin (kl K) (kD K) (kad K) (kcA K) a0 0 2 s0) cw_RX10_97 ⟨rfl, rfl, by decide, by decide⟩ rfl rfl (Nat.le_of_ble_eq_true rfl) dX10_isColour_3 (fun r1 s2 => ?_)
  exact j_zret hq dX10_isColour_6
abbrev rmX10_table : Room := { frames := 2, cells := 0, slots := 0, locals := 48 }
theorem dX10_table_0 : decode cX10_table 0 = .ok (.iload_n 1, 1) := by decide +kernel
theorem dX10_table_1 : decode cX10_table 1 = .ok (.invokestatic 90, 3) := by decide +kernel
theorem dX10_table_4 : decode cX10_table 4 = .ok (.ifCond .eq 32, 3) := by decide +kernel
theorem dX10_table_7 : decode cX10_table 7 = .ok (.iload_n 2, 1) := by decide +kernel
theorem dX10_table_8 : decode cX10_table 8 = .ok (.invokestatic 94, 3) := by decide +kernel
theorem dX10_table_11 : decode cX10_table 11 = .ok (.ifCond .eq 25, 3) := by decide +kernel
theorem dX10_table_14 : decode cX10_table 14 = .ok (.iload_n 3, 1) := by decide +kernel
theorem dX10_table_15 : decode cX10_table 15 = .ok (.iconst 0, 1) := by decide +kernel
theorem dX10_table_16 : decode cX10_table 16 = .ok (.bipush 8, 2) := by decide +kernel
theorem dX10_table_18 : decode cX10_table 18 = .ok (.invokestatic 97, 3) := by decide +kernel
theorem dX10_table_21 : decode cX10_table 21 = .ok (.ifCond .eq 15, 3) := by decide +kernel
theorem dX10_table_24 : decode cX10_table 24 = .ok (.iload 4, 2) := by decide +kernel
theorem dX10_table_26 : decode cX10_table 26 = .ok (.iconst 0, 1) := by decide +kernel
theorem dX10_table_27 : decode cX10_table 27 = .ok (.sipush 255, 3) := by decide +kernel
theorem dX10_table_30 : decode cX10_table 30 = .ok (.invokestatic 97, 3) := by decide +kernel
theorem dX10_table_33 : decode cX10_table 33 = .ok (.ifCond .ne 5, 3) := by decide +kernel
theorem dX10_table_36 : decode cX10_table 36 = .ok (.iconst (-1), 1) := by decide +kernel
theorem dX10_table_37 : decode cX10_table 37 = .ok (.ireturn, 1) := by decide +kernel
theorem dX10_table_38 : decode cX10_table 38 = .ok (.aload_n 0, 1) := by decide +kernel
theorem dX10_table_39 : decode cX10_table 39 = .ok (.getfield 10, 3) := by decide +kernel
theorem dX10_table_42 : decode cX10_table 42 = .ok (.iload_n 1, 1) := by decide +kernel
theorem dX10_table_43 : decode cX10_table 43 = .ok (.iload_n 2, 1) := by decide +kernel
theorem dX10_table_44 : decode cX10_table 44 = .ok (.iload_n 3, 1) := by decide +kernel
theorem dX10_table_45 : decode cX10_table 45 = .ok (.iload 4, 2) := by decide +kernel
theorem dX10_table_47 : decode cX10_table 47 = .ok (.invokevirtual 101, 3) := by decide +kernel
theorem dX10_table_50 : decode cX10_table 50 = .ok (.ireturn, 1) := by decide +kernel
def fX10_table (a1 : Int) (a2 : Int) (a3 : Int) (a4 : Int) (s0 : Mem) : Option Res :=
 bnd (fX10_isStock a1 s0) (fun r1 s2 =>
 (if r1 = 0 then
 some ((-1), s2)
 else
 bnd (fX10_isColour a2 s2) (fun r3 s4 =>
 (if r3 = 0 then
 some ((-1), s4)
 else
 bnd (fX10_isWithin a3 0 8 s4) (fun r5 s6 =>
 (if r5 = 0 then
 some ((-1), s6)
 else
 bnd (fX10_isWithin a4 0 255 s6) (fun r7 s8 =>
 (if r7 ≠ 0 then
 bnd (fX9_tell a1 a2 a3 a4 s8) (fun r9 s10 =>
 some (r9, s10))
 else
 some ((-1), s8)))))))))
set_option maxRecDepth 100000 in
set_option maxHeartbeats 4000000 in
theorem mX10_table (l : Launch) (D : va_G) (ad : Nat → Nat) (cA : Nat → ClassId) (a1 : Int) (a2 : Int) (a3 : Int) (a4 : Int) (s0 : Mem) : MCi l D ad cA yX10_table cX10_table 5 (some .int) rmX10_table [.inr (.inr 0), .inl a1, .inl a2, .inl a3, .inl a4] s0 (fX10_table a1 a2 a3 a4 s0) := by
  refine MCi_ofE (own := RX10) (ls := [some (.inr (.inr 0)), some (.inl a1), some (.inl a2), some (.inl a3), some (.inl a4)]) 0 (by decide +kernel) rfl rfl (fun _ => Nat.le_of_ble_eq_true rfl) (fun K hq => ?_)
  unfold fX10_table
  refine j_iload_n dX10_table_0 rfl rfl ?_
  refine j_callSi (mX10_isStock (kl K) (kD K) (kad K) (kcA K) a1 s0) cw_RX10_90 ⟨rfl, rfl, by decide, by decide⟩ rfl rfl (Nat.le_of_ble_eq_true rfl) dX10_table_1 (fun r1 s2 => ?_)
  refine j_if_eq (tgt := 36) dX10_table_4 rfl ?_ ?_
  · refine j_iconst dX10_table_36 (inr_d rfl) ?_
    exact j_iret hq dX10_table_37
  · refine j_iload_n dX10_table_7 rfl rfl ?_
    refine j_callSi (mX10_isColour (kl K) (kD K) (kad K) (kcA K) a2 s2) cw_RX10_94 ⟨rfl, rfl, by decide, by decide⟩ rfl rfl (Nat.le_of_ble_eq_true rfl) dX10_table_8 (fun r3 s4 => ?_)
    refine j_if_eq (tgt := 36) dX10_table_11 rfl ?_ ?_
    · refine j_iconst dX10_table_36 (inr_d rfl) ?_
      exact j_iret hq dX10_table_37
    · refine j_iload_n dX10_table_14 rfl rfl ?_
      refine j_iconst dX10_table_15 (inr_d rfl) ?_
      refine j_bipush (v := 8) dX10_table_16 (by decide +kernel) (inr_d rfl) ?_
      refine j_callSi (mX10_isWithin (kl K) (kD K) (kad K) (kcA K) a3 0 8 s4) cw_RX10_97 ⟨rfl, rfl, by decide, by decide⟩ rfl rfl (Nat.le_of_ble_eq_true rfl) dX10_table_18 (fun r5 s6 => ?_)
      refine j_if_eq (tgt := 36) dX10_table_21 rfl ?_ ?_
      · refine j_iconst dX10_table_36 (inr_d rfl) ?_
        exact j_iret hq dX10_table_37
      · refine j_iload dX10_table_24 rfl ?_
        refine j_iconst dX10_table_26 (inr_d rfl) ?_
        refine j_sipush (v := 255) dX10_table_27 (by decide +kernel) (inr_d rfl) ?_
        refine j_callSi (mX10_isWithin (kl K) (kD K) (kad K) (kcA K) a4 0 255 s6) cw_RX10_97 ⟨rfl, rfl, by decide, by decide⟩ rfl rfl (Nat.le_of_ble_eq_true rfl) dX10_table_30 (fun r7 s8 => ?_)
        refine j_if_ne (tgt := 38) dX10_table_33 rfl ?_ ?_
        · refine j_aload_n dX10_table_38 rfl rfl ?_
          refine j_getR fl_RX10_10 sh_0 rfl dX10_table_39 ?_
          refine j_iload_n dX10_table_42 rfl rfl ?_
          refine j_iload_n dX10_table_43 rfl rfl ?_
          refine j_iload_n dX10_table_44 rfl rfl ?_
          refine j_iload dX10_table_45 rfl ?_
          refine j_callVi (mX9_tell (kl K) (kD K) (kad K) (kcA K) a1 a2 a3 a4 s8) cw_RX10_101 sh_1 rfl ⟨rfl, rfl, by decide, by decide⟩ rfl rfl (Nat.le_of_ble_eq_true rfl) dX10_table_47 (fun r9 s10 => ?_)
          exact j_iret hq dX10_table_50
        · refine j_iconst dX10_table_36 (inr_d rfl) ?_
          exact j_iret hq dX10_table_37
abbrev rmX10_isBath : Room := { frames := 1, cells := 0, slots := 0, locals := 22 }
theorem dX10_isBath_0 : decode cX10_isBath 0 = .ok (.iload_n 0, 1) := by decide +kernel
theorem dX10_isBath_1 : decode cX10_isBath 1 = .ok (.iconst 0, 1) := by decide +kernel
theorem dX10_isBath_2 : decode cX10_isBath 2 = .ok (.iconst 1, 1) := by decide +kernel
theorem dX10_isBath_3 : decode cX10_isBath 3 = .ok (.invokestatic 97, 3) := by decide +kernel
theorem dX10_isBath_6 : decode cX10_isBath 6 = .ok (.ireturn, 1) := by decide +kernel
def fX10_isBath (a0 : Int) (s0 : Mem) : Option Res :=
 bnd (fX10_isWithin a0 0 1 s0) (fun r1 s2 =>
 zr r1 s2)
set_option maxRecDepth 100000 in
set_option maxHeartbeats 4000000 in
theorem mX10_isBath (l : Launch) (D : va_G) (ad : Nat → Nat) (cA : Nat → ClassId) (a0 : Int) (s0 : Mem) : MCi l D ad cA yX10_isBath cX10_isBath 1 (some .boolean) rmX10_isBath [.inl a0] s0 (fX10_isBath a0 s0) := by
  refine MCi_ofE (own := RX10) (ls := [some (.inl a0)]) 0 (by decide +kernel) rfl rfl (fun _ => Nat.le_of_ble_eq_true rfl) (fun K hq => ?_)
  unfold fX10_isBath
  refine j_iload_n dX10_isBath_0 rfl rfl ?_
  refine j_iconst dX10_isBath_1 (inr_d rfl) ?_
  refine j_iconst dX10_isBath_2 (inr_d rfl) ?_
  refine j_callSi (mX10_isWithin (kl K) (kD K) (kad K) (kcA K) a0 0 1 s0) cw_RX10_97 ⟨rfl, rfl, by decide, by decide⟩ rfl rfl (Nat.le_of_ble_eq_true rfl) dX10_isBath_3 (fun r1 s2 => ?_)
  exact j_zret hq dX10_isBath_6
abbrev rmX10_bath : Room := { frames := 2, cells := 0, slots := 0, locals := 42 }
theorem dX10_bath_0 : decode cX10_bath 0 = .ok (.iload_n 1, 1) := by decide +kernel
theorem dX10_bath_1 : decode cX10_bath 1 = .ok (.invokestatic 105, 3) := by decide +kernel
theorem dX10_bath_4 : decode cX10_bath 4 = .ok (.ifCond .ne 5, 3) := by decide +kernel
theorem dX10_bath_7 : decode cX10_bath 7 = .ok (.iconst (-1), 1) := by decide +kernel
theorem dX10_bath_8 : decode cX10_bath 8 = .ok (.ireturn, 1) := by decide +kernel
theorem dX10_bath_9 : decode cX10_bath 9 = .ok (.iload_n 2, 1) := by decide +kernel
theorem dX10_bath_10 : decode cX10_bath 10 = .ok (.ifCond .ne 27, 3) := by decide +kernel
theorem dX10_bath_13 : decode cX10_bath 13 = .ok (.iload_n 3, 1) := by decide +kernel
theorem dX10_bath_14 : decode cX10_bath 14 = .ok (.iconst 0, 1) := by decide +kernel
theorem dX10_bath_15 : decode cX10_bath 15 = .ok (.sipush 1000, 3) := by decide +kernel
theorem dX10_bath_18 : decode cX10_bath 18 = .ok (.invokestatic 97, 3) := by decide +kernel
theorem dX10_bath_21 : decode cX10_bath 21 = .ok (.ifCond .eq 16, 3) := by decide +kernel
theorem dX10_bath_24 : decode cX10_bath 24 = .ok (.aload_n 0, 1) := by decide +kernel
theorem dX10_bath_25 : decode cX10_bath 25 = .ok (.getfield 10, 3) := by decide +kernel
theorem dX10_bath_28 : decode cX10_bath 28 = .ok (.getfield 108, 3) := by decide +kernel
theorem dX10_bath_31 : decode cX10_bath 31 = .ok (.iload_n 1, 1) := by decide +kernel
theorem dX10_bath_32 : decode cX10_bath 32 = .ok (.iload_n 3, 1) := by decide +kernel
theorem dX10_bath_33 : decode cX10_bath 33 = .ok (.invokestatic 111, 3) := by decide +kernel
theorem dX10_bath_36 : decode cX10_bath 36 = .ok (.ireturn, 1) := by decide +kernel
theorem dX10_bath_37 : decode cX10_bath 37 = .ok (.iload_n 2, 1) := by decide +kernel
theorem dX10_bath_38 : decode cX10_bath 38 = .ok (.iconst 1, 1) := by decide +kernel
theorem dX10_bath_39 : decode cX10_bath 39 = .ok (.if_icmp .ne 26, 3) := by decide +kernel
theorem dX10_bath_42 : decode cX10_bath 42 = .ok (.iload_n 3, 1) := by decide +kernel
theorem dX10_bath_43 : decode cX10_bath 43 = .ok (.iconst 1, 1) := by decide +kernel
theorem dX10_bath_44 : decode cX10_bath 44 = .ok (.bipush 50, 2) := by decide +kernel
theorem dX10_bath_46 : decode cX10_bath 46 = .ok (.invokestatic 97, 3) := by decide +kernel
theorem dX10_bath_49 : decode cX10_bath 49 = .ok (.ifCond .eq 16, 3) := by decide +kernel
theorem dX10_bath_52 : decode cX10_bath 52 = .ok (.aload_n 0, 1) := by decide +kernel
theorem dX10_bath_53 : decode cX10_bath 53 = .ok (.getfield 10, 3) := by decide +kernel
theorem dX10_bath_56 : decode cX10_bath 56 = .ok (.getfield 115, 3) := by decide +kernel
theorem dX10_bath_59 : decode cX10_bath 59 = .ok (.iload_n 1, 1) := by decide +kernel
theorem dX10_bath_60 : decode cX10_bath 60 = .ok (.iload_n 3, 1) := by decide +kernel
theorem dX10_bath_61 : decode cX10_bath 61 = .ok (.invokestatic 111, 3) := by decide +kernel
theorem dX10_bath_64 : decode cX10_bath 64 = .ok (.ireturn, 1) := by decide +kernel
theorem dX10_bath_65 : decode cX10_bath 65 = .ok (.iconst (-1), 1) := by decide +kernel
theorem dX10_bath_66 : decode cX10_bath 66 = .ok (.ireturn, 1) := by decide +kernel
def fX10_bath (a1 : Int) (a2 : Int) (a3 : Int) (s0 : Mem) : Option Res :=
 bnd (fX10_isBath a1 s0) (fun r1 s2 =>
 (if r1 ≠ 0 then
 jn (fun (s3 : Mem) =>
 (if a2 ≠ 1 then
 some ((-1), s3)
 else
 bnd (fX10_isWithin a3 1 50 s3) (fun r4 s5 =>
 (if r4 = 0 then
 some ((-1), s5)
 else
 bnd (fX10_swap 4 2 a1 a3 s5) (fun r6 s7 =>
 some (r6, s7)))))) (fun k37 =>
 (if a2 ≠ 0 then
 k37 s2
 else
 bnd (fX10_isWithin a3 0 1000 s2) (fun r8 s9 =>
 (if r8 = 0 then
 k37 s9
 else
 bnd (fX10_swap 3 2 a1 a3 s9) (fun r10 s11 =>
 some (r10, s11))))))
 else
 some ((-1), s2)))
set_option maxRecDepth 100000 in
set_option maxHeartbeats 4000000 in
theorem mX10_bath (l : Launch) (D : va_G) (ad : Nat → Nat) (cA : Nat → ClassId) (a1 : Int) (a2 : Int) (a3 : Int) (s0 : Mem) : MCi l D ad cA yX10_bath cX10_bath 4 (some .int) rmX10_bath [.inr (.inr 0), .inl a1, .inl a2, .inl a3] s0 (fX10_bath a1 a2 a3 s0) := by
  refine MCi_ofE (own := RX10) (ls := [some (.inr (.inr 0)), some (.inl a1), some (.inl a2), some (.inl a3)]) 0 (by decide +kernel) rfl rfl (fun _ => Nat.le_of_ble_eq_true rfl) (fun K hq => ?_)
  unfold fX10_bath
  refine j_iload_n dX10_bath_0 rfl rfl ?_
  refine j_callSi (mX10_isBath (kl K) (kD K) (kad K) (kcA K) a1 s0) cw_RX10_105 ⟨rfl, rfl, by decide, by decide⟩ rfl rfl (Nat.le_of_ble_eq_true rfl) dX10_bath_1 (fun r1 s2 => ?_)
  refine j_if_ne (tgt := 9) dX10_bath_4 rfl ?_ ?_
  · refine j_iload_n dX10_bath_9 rfl rfl ?_
    refine j_jn (fun k37 => ∀ (s3 : Mem), J K rmX10_bath cX10_bath RX10 4 37 [some (.inr (.inr 0)), some (.inl a1), some (.inl a2), some (.inl a3)] [] s3 (k37 s3)) (fun s3 => ?_) (fun k37 hk37 => ?_)
    · refine j_iload_n dX10_bath_37 rfl rfl ?_
      refine j_iconst dX10_bath_38 (inr_d rfl) ?_
      refine j_icmp_ne (tgt := 65) dX10_bath_39 rfl ?_ ?_
      · refine j_iconst dX10_bath_65 (inr_d rfl) ?_
        exact j_iret hq dX10_bath_66
      · refine j_iload_n dX10_bath_42 rfl rfl ?_
        refine j_iconst dX10_bath_43 (inr_d rfl) ?_
        refine j_bipush (v := 50) dX10_bath_44 (by decide +kernel) (inr_d rfl) ?_
        refine j_callSi (mX10_isWithin (kl K) (kD K) (kad K) (kcA K) a3 1 50 s3) cw_RX10_97 ⟨rfl, rfl, by decide, by decide⟩ rfl rfl (Nat.le_of_ble_eq_true rfl) dX10_bath_46 (fun r4 s5 => ?_)
        refine j_if_eq (tgt := 65) dX10_bath_49 rfl ?_ ?_
        · refine j_iconst dX10_bath_65 (inr_d rfl) ?_
          exact j_iret hq dX10_bath_66
        · refine j_aload_n dX10_bath_52 rfl rfl ?_
          refine j_getR fl_RX10_10 sh_0 rfl dX10_bath_53 ?_
          refine j_getR fl_RX10_115 sh_1 rfl dX10_bath_56 ?_
          refine j_iload_n dX10_bath_59 rfl rfl ?_
          refine j_iload_n dX10_bath_60 rfl rfl ?_
          refine j_callSi (mX10_swap (kl K) (kD K) (kad K) (kcA K) 4 2 sh_4 (by decide) a1 a3 s5) cw_RX10_111 ⟨rfl, rfl, by decide, by decide⟩ rfl rfl (Nat.le_of_ble_eq_true rfl) dX10_bath_61 (fun r6 s7 => ?_)
          exact j_iret hq dX10_bath_64
    refine j_if_ne (tgt := 37) dX10_bath_10 rfl ?_ ?_
    · exact j_msk [true, true, true, true] (hk37 _)
    · refine j_iload_n dX10_bath_13 rfl rfl ?_
      refine j_iconst dX10_bath_14 (inr_d rfl) ?_
      refine j_sipush (v := 1000) dX10_bath_15 (by decide +kernel) (inr_d rfl) ?_
      refine j_callSi (mX10_isWithin (kl K) (kD K) (kad K) (kcA K) a3 0 1000 s2) cw_RX10_97 ⟨rfl, rfl, by decide, by decide⟩ rfl rfl (Nat.le_of_ble_eq_true rfl) dX10_bath_18 (fun r8 s9 => ?_)
      refine j_if_eq (tgt := 37) dX10_bath_21 rfl ?_ ?_
      · exact j_msk [true, true, true, true] (hk37 _)
      · refine j_aload_n dX10_bath_24 rfl rfl ?_
        refine j_getR fl_RX10_10 sh_0 rfl dX10_bath_25 ?_
        refine j_getR fl_RX10_108 sh_1 rfl dX10_bath_28 ?_
        refine j_iload_n dX10_bath_31 rfl rfl ?_
        refine j_iload_n dX10_bath_32 rfl rfl ?_
        refine j_callSi (mX10_swap (kl K) (kD K) (kad K) (kcA K) 3 2 sh_3 (by decide) a1 a3 s9) cw_RX10_111 ⟨rfl, rfl, by decide, by decide⟩ rfl rfl (Nat.le_of_ble_eq_true rfl) dX10_bath_33 (fun r10 s11 => ?_)
        exact j_iret hq dX10_bath_36
  · refine j_iconst dX10_bath_7 (inr_d rfl) ?_
    exact j_iret hq dX10_bath_8
abbrev rmX10_lamp : Room := { frames := 2, cells := 0, slots := 0, locals := 42 }
theorem dX10_lamp_0 : decode cX10_lamp 0 = .ok (.iload_n 1, 1) := by decide +kernel
theorem dX10_lamp_1 : decode cX10_lamp 1 = .ok (.invokestatic 94, 3) := by decide +kernel
theorem dX10_lamp_4 : decode cX10_lamp 4 = .ok (.ifCond .eq 13, 3) := by decide +kernel
theorem dX10_lamp_7 : decode cX10_lamp 7 = .ok (.iload_n 2, 1) := by decide +kernel
theorem dX10_lamp_8 : decode cX10_lamp 8 = .ok (.iconst 0, 1) := by decide +kernel
theorem dX10_lamp_9 : decode cX10_lamp 9 = .ok (.bipush 20, 2) := by decide +kernel
theorem dX10_lamp_11 : decode cX10_lamp 11 = .ok (.invokestatic 97, 3) := by decide +kernel
theorem dX10_lamp_14 : decode cX10_lamp 14 = .ok (.ifCond .ne 5, 3) := by decide +kernel
theorem dX10_lamp_17 : decode cX10_lamp 17 = .ok (.iconst (-1), 1) := by decide +kernel
theorem dX10_lamp_18 : decode cX10_lamp 18 = .ok (.ireturn, 1) := by decide +kernel
theorem dX10_lamp_19 : decode cX10_lamp 19 = .ok (.aload_n 0, 1) := by decide +kernel
theorem dX10_lamp_20 : decode cX10_lamp 20 = .ok (.getfield 10, 3) := by decide +kernel
theorem dX10_lamp_23 : decode cX10_lamp 23 = .ok (.getfield 118, 3) := by decide +kernel
theorem dX10_lamp_26 : decode cX10_lamp 26 = .ok (.iload_n 1, 1) := by decide +kernel
theorem dX10_lamp_27 : decode cX10_lamp 27 = .ok (.iload_n 2, 1) := by decide +kernel
theorem dX10_lamp_28 : decode cX10_lamp 28 = .ok (.invokestatic 111, 3) := by decide +kernel
theorem dX10_lamp_31 : decode cX10_lamp 31 = .ok (.ireturn, 1) := by decide +kernel
def fX10_lamp (a1 : Int) (a2 : Int) (s0 : Mem) : Option Res :=
 bnd (fX10_isColour a1 s0) (fun r1 s2 =>
 (if r1 = 0 then
 some ((-1), s2)
 else
 bnd (fX10_isWithin a2 0 20 s2) (fun r3 s4 =>
 (if r3 ≠ 0 then
 bnd (fX10_swap 6 3 a1 a2 s4) (fun r5 s6 =>
 some (r5, s6))
 else
 some ((-1), s4)))))
set_option maxRecDepth 100000 in
set_option maxHeartbeats 4000000 in
theorem mX10_lamp (l : Launch) (D : va_G) (ad : Nat → Nat) (cA : Nat → ClassId) (a1 : Int) (a2 : Int) (s0 : Mem) : MCi l D ad cA yX10_lamp cX10_lamp 3 (some .int) rmX10_lamp [.inr (.inr 0), .inl a1, .inl a2] s0 (fX10_lamp a1 a2 s0) := by
  refine MCi_ofE (own := RX10) (ls := [some (.inr (.inr 0)), some (.inl a1), some (.inl a2)]) 0 (by decide +kernel) rfl rfl (fun _ => Nat.le_of_ble_eq_true rfl) (fun K hq => ?_)
  unfold fX10_lamp
  refine j_iload_n dX10_lamp_0 rfl rfl ?_
  refine j_callSi (mX10_isColour (kl K) (kD K) (kad K) (kcA K) a1 s0) cw_RX10_94 ⟨rfl, rfl, by decide, by decide⟩ rfl rfl (Nat.le_of_ble_eq_true rfl) dX10_lamp_1 (fun r1 s2 => ?_)
  refine j_if_eq (tgt := 17) dX10_lamp_4 rfl ?_ ?_
  · refine j_iconst dX10_lamp_17 (inr_d rfl) ?_
    exact j_iret hq dX10_lamp_18
  · refine j_iload_n dX10_lamp_7 rfl rfl ?_
    refine j_iconst dX10_lamp_8 (inr_d rfl) ?_
    refine j_bipush (v := 20) dX10_lamp_9 (by decide +kernel) (inr_d rfl) ?_
    refine j_callSi (mX10_isWithin (kl K) (kD K) (kad K) (kcA K) a2 0 20 s2) cw_RX10_97 ⟨rfl, rfl, by decide, by decide⟩ rfl rfl (Nat.le_of_ble_eq_true rfl) dX10_lamp_11 (fun r3 s4 => ?_)
    refine j_if_ne (tgt := 19) dX10_lamp_14 rfl ?_ ?_
    · refine j_aload_n dX10_lamp_19 rfl rfl ?_
      refine j_getR fl_RX10_10 sh_0 rfl dX10_lamp_20 ?_
      refine j_getR fl_RX10_118 sh_1 rfl dX10_lamp_23 ?_
      refine j_iload_n dX10_lamp_26 rfl rfl ?_
      refine j_iload_n dX10_lamp_27 rfl rfl ?_
      refine j_callSi (mX10_swap (kl K) (kD K) (kad K) (kcA K) 6 3 sh_6 (by decide) a1 a2 s4) cw_RX10_111 ⟨rfl, rfl, by decide, by decide⟩ rfl rfl (Nat.le_of_ble_eq_true rfl) dX10_lamp_28 (fun r5 s6 => ?_)
      exact j_iret hq dX10_lamp_31
    · refine j_iconst dX10_lamp_17 (inr_d rfl) ?_
      exact j_iret hq dX10_lamp_18
abbrev rmX10_rule : Room := { frames := 1, cells := 0, slots := 0, locals := 23 }
theorem dX10_rule_0 : decode cX10_rule 0 = .ok (.iload_n 1, 1) := by decide +kernel
theorem dX10_rule_1 : decode cX10_rule 1 = .ok (.iconst 0, 1) := by decide +kernel
theorem dX10_rule_2 : decode cX10_rule 2 = .ok (.iconst 3, 1) := by decide +kernel
theorem dX10_rule_3 : decode cX10_rule 3 = .ok (.invokestatic 97, 3) := by decide +kernel
theorem dX10_rule_6 : decode cX10_rule 6 = .ok (.ifCond .eq 20, 3) := by decide +kernel
theorem dX10_rule_9 : decode cX10_rule 9 = .ok (.iload_n 2, 1) := by decide +kernel
theorem dX10_rule_10 : decode cX10_rule 10 = .ok (.getstatic 121, 3) := by decide +kernel
theorem dX10_rule_13 : decode cX10_rule 13 = .ok (.iload_n 1, 1) := by decide +kernel
theorem dX10_rule_14 : decode cX10_rule 14 = .ok (.iaload, 1) := by decide +kernel
theorem dX10_rule_15 : decode cX10_rule 15 = .ok (.getstatic 124, 3) := by decide +kernel
theorem dX10_rule_18 : decode cX10_rule 18 = .ok (.iload_n 1, 1) := by decide +kernel
theorem dX10_rule_19 : decode cX10_rule 19 = .ok (.iaload, 1) := by decide +kernel
theorem dX10_rule_20 : decode cX10_rule 20 = .ok (.invokestatic 97, 3) := by decide +kernel
theorem dX10_rule_23 : decode cX10_rule 23 = .ok (.ifCond .ne 5, 3) := by decide +kernel
theorem dX10_rule_26 : decode cX10_rule 26 = .ok (.iconst (-1), 1) := by decide +kernel
theorem dX10_rule_27 : decode cX10_rule 27 = .ok (.ireturn, 1) := by decide +kernel
theorem dX10_rule_28 : decode cX10_rule 28 = .ok (.aload_n 0, 1) := by decide +kernel
theorem dX10_rule_29 : decode cX10_rule 29 = .ok (.getfield 25, 3) := by decide +kernel
theorem dX10_rule_32 : decode cX10_rule 32 = .ok (.iload_n 1, 1) := by decide +kernel
theorem dX10_rule_33 : decode cX10_rule 33 = .ok (.iload_n 2, 1) := by decide +kernel
theorem dX10_rule_34 : decode cX10_rule 34 = .ok (.invokestatic 111, 3) := by decide +kernel
theorem dX10_rule_37 : decode cX10_rule 37 = .ok (.ireturn, 1) := by decide +kernel
def fX10_rule (a1 : Int) (a2 : Int) (s0 : Mem) : Option Res :=
 bnd (fX10_isWithin a1 0 3 s0) (fun r1 s2 =>
 (if r1 = 0 then
 some ((-1), s2)
 else
 rd rlo a1 4 (fun v3 =>
 rd rhi a1 4 (fun v4 =>
 bnd (fX10_isWithin a2 v3 v4 s2) (fun r5 s6 =>
 (if r5 ≠ 0 then
 bnd (fX10_swap 7 4 a1 a2 s6) (fun r7 s8 =>
 some (r7, s8))
 else
 some ((-1), s6)))))))
set_option maxRecDepth 100000 in
set_option maxHeartbeats 4000000 in
theorem mX10_rule (l : Launch) (D : va_G) (ad : Nat → Nat) (cA : Nat → ClassId) (a1 : Int) (a2 : Int) (s0 : Mem) : MCi l D ad cA yX10_rule cX10_rule 3 (some .int) rmX10_rule [.inr (.inr 0), .inl a1, .inl a2] s0 (fX10_rule a1 a2 s0) := by
  refine MCi_ofE (own := RX10) (ls := [some (.inr (.inr 0)), some (.inl a1), some (.inl a2)]) 0 (by decide +kernel) rfl rfl (fun _ => Nat.le_of_ble_eq_true rfl) (fun K hq => ?_)
  unfold fX10_rule
  refine j_iload_n dX10_rule_0 rfl rfl ?_
  refine j_iconst dX10_rule_1 (inr_d rfl) ?_
  refine j_iconst dX10_rule_2 (inr_d rfl) ?_
  refine j_callSi (mX10_isWithin (kl K) (kD K) (kad K) (kcA K) a1 0 3 s0) cw_RX10_97 ⟨rfl, rfl, by decide, by decide⟩ rfl rfl (Nat.le_of_ble_eq_true rfl) dX10_rule_3 (fun r1 s2 => ?_)
  refine j_if_eq (tgt := 26) dX10_rule_6 rfl ?_ ?_
  · refine j_iconst dX10_rule_26 (inr_d rfl) ?_
    exact j_iret hq dX10_rule_27
  · refine j_iload_n dX10_rule_9 rfl rfl ?_
    refine j_gsLo gs_RX10_121 dX10_rule_10 ?_
    refine j_iload_n dX10_rule_13 rfl rfl ?_
    refine j_saLo dX10_rule_14 (fun v3 => ?_)
    refine j_gsHi gs_RX10_124 dX10_rule_15 ?_
    refine j_iload_n dX10_rule_18 rfl rfl ?_
    refine j_saHi dX10_rule_19 (fun v4 => ?_)
    refine j_callSi (mX10_isWithin (kl K) (kD K) (kad K) (kcA K) a2 v3 v4 s2) cw_RX10_97 ⟨rfl, rfl, by decide, by decide⟩ rfl rfl (Nat.le_of_ble_eq_true rfl) dX10_rule_20 (fun r5 s6 => ?_)
    refine j_if_ne (tgt := 28) dX10_rule_23 rfl ?_ ?_
    · refine j_aload_n dX10_rule_28 rfl rfl ?_
      refine j_getR fl_RX10_25 sh_0 rfl dX10_rule_29 ?_
      refine j_iload_n dX10_rule_32 rfl rfl ?_
      refine j_iload_n dX10_rule_33 rfl rfl ?_
      refine j_callSi (mX10_swap (kl K) (kD K) (kad K) (kcA K) 7 4 sh_7 (by decide) a1 a2 s6) cw_RX10_111 ⟨rfl, rfl, by decide, by decide⟩ rfl rfl (Nat.le_of_ble_eq_true rfl) dX10_rule_34 (fun r7 s8 => ?_)
      exact j_iret hq dX10_rule_37
    · refine j_iconst dX10_rule_26 (inr_d rfl) ?_
      exact j_iret hq dX10_rule_27
abbrev rmX10_bathTold : Room := { frames := 2, cells := 0, slots := 0, locals := 43 }
theorem dX10_bathTold_0 : decode cX10_bathTold 0 = .ok (.iload_n 1, 1) := by decide +kernel
theorem dX10_bathTold_1 : decode cX10_bathTold 1 = .ok (.invokestatic 105, 3) := by decide +kernel
theorem dX10_bathTold_4 : decode cX10_bathTold 4 = .ok (.ifCond .ne 7, 3) := by decide +kernel
theorem dX10_bathTold_7 : decode cX10_bathTold 7 = .ok (.sipush (-1000), 3) := by decide +kernel
theorem dX10_bathTold_10 : decode cX10_bathTold 10 = .ok (.ireturn, 1) := by decide +kernel
theorem dX10_bathTold_11 : decode cX10_bathTold 11 = .ok (.iload_n 2, 1) := by decide +kernel
theorem dX10_bathTold_12 : decode cX10_bathTold 12 = .ok (.tableswitch 71 0 3 #[32, 42, 52, 62], 32) := by decide +kernel
theorem dX10_bathTold_44 : decode cX10_bathTold 44 = .ok (.aload_n 0, 1) := by decide +kernel
theorem dX10_bathTold_45 : decode cX10_bathTold 45 = .ok (.getfield 10, 3) := by decide +kernel
theorem dX10_bathTold_48 : decode cX10_bathTold 48 = .ok (.getfield 108, 3) := by decide +kernel
theorem dX10_bathTold_51 : decode cX10_bathTold 51 = .ok (.iload_n 1, 1) := by decide +kernel
theorem dX10_bathTold_52 : decode cX10_bathTold 52 = .ok (.iaload, 1) := by decide +kernel
theorem dX10_bathTold_53 : decode cX10_bathTold 53 = .ok (.ireturn, 1) := by decide +kernel
theorem dX10_bathTold_54 : decode cX10_bathTold 54 = .ok (.aload_n 0, 1) := by decide +kernel
theorem dX10_bathTold_55 : decode cX10_bathTold 55 = .ok (.getfield 10, 3) := by decide +kernel
theorem dX10_bathTold_58 : decode cX10_bathTold 58 = .ok (.getfield 115, 3) := by decide +kernel
theorem dX10_bathTold_61 : decode cX10_bathTold 61 = .ok (.iload_n 1, 1) := by decide +kernel
theorem dX10_bathTold_62 : decode cX10_bathTold 62 = .ok (.iaload, 1) := by decide +kernel
theorem dX10_bathTold_63 : decode cX10_bathTold 63 = .ok (.ireturn, 1) := by decide +kernel
theorem dX10_bathTold_64 : decode cX10_bathTold 64 = .ok (.aload_n 0, 1) := by decide +kernel
theorem dX10_bathTold_65 : decode cX10_bathTold 65 = .ok (.getfield 10, 3) := by decide +kernel
theorem dX10_bathTold_68 : decode cX10_bathTold 68 = .ok (.getfield 127, 3) := by decide +kernel
theorem dX10_bathTold_71 : decode cX10_bathTold 71 = .ok (.iload_n 1, 1) := by decide +kernel
theorem dX10_bathTold_72 : decode cX10_bathTold 72 = .ok (.iaload, 1) := by decide +kernel
theorem dX10_bathTold_73 : decode cX10_bathTold 73 = .ok (.ireturn, 1) := by decide +kernel
theorem dX10_bathTold_74 : decode cX10_bathTold 74 = .ok (.aload_n 0, 1) := by decide +kernel
theorem dX10_bathTold_75 : decode cX10_bathTold 75 = .ok (.getfield 10, 3) := by decide +kernel
theorem dX10_bathTold_78 : decode cX10_bathTold 78 = .ok (.iload_n 1, 1) := by decide +kernel
theorem dX10_bathTold_79 : decode cX10_bathTold 79 = .ok (.invokevirtual 130, 3) := by decide +kernel
theorem dX10_bathTold_82 : decode cX10_bathTold 82 = .ok (.ireturn, 1) := by decide +kernel
theorem dX10_bathTold_83 : decode cX10_bathTold 83 = .ok (.sipush (-1000), 3) := by decide +kernel
theorem dX10_bathTold_86 : decode cX10_bathTold 86 = .ok (.ireturn, 1) := by decide +kernel
def fX10_bathTold (a1 : Int) (a2 : Int) (s0 : Mem) : Option Res :=
 bnd (fX10_isBath a1 s0) (fun r1 s2 =>
 (if r1 ≠ 0 then
 (if a2 = 0 then
 rd (s2 3) a1 2 (fun v3 =>
 some (v3, s2))
 else
 (if a2 = 1 then
 rd (s2 4) a1 2 (fun v4 =>
 some (v4, s2))
 else
 (if a2 = 2 then
 rd (s2 5) a1 2 (fun v5 =>
 some (v5, s2))
 else
 (if a2 = 3 then
 bnd (fX9_activity a1 s2) (fun r6 s7 =>
 some (r6, s7))
 else
 some ((-1000), s2)))))
 else
 some ((-1000), s2)))
set_option maxRecDepth 100000 in
set_option maxHeartbeats 4000000 in
theorem mX10_bathTold (l : Launch) (D : va_G) (ad : Nat → Nat) (cA : Nat → ClassId) (a1 : Int) (a2 : Int) (s0 : Mem) : MCi l D ad cA yX10_bathTold cX10_bathTold 3 (some .int) rmX10_bathTold [.inr (.inr 0), .inl a1, .inl a2] s0 (fX10_bathTold a1 a2 s0) := by
  refine MCi_ofE (own := RX10) (ls := [some (.inr (.inr 0)), some (.inl a1), some (.inl a2)]) 0 (by decide +kernel) rfl rfl (fun _ => Nat.le_of_ble_eq_true rfl) (fun K hq => ?_)
  unfold fX10_bathTold
  refine j_iload_n dX10_bathTold_0 rfl rfl ?_
  refine j_callSi (mX10_isBath (kl K) (kD K) (kad K) (kcA K) a1 s0) cw_RX10_105 ⟨rfl, rfl, by decide, by decide⟩ rfl rfl (Nat.le_of_ble_eq_true rfl) dX10_bathTold_1 (fun r1 s2 => ?_)
  refine j_if_ne (tgt := 11) dX10_bathTold_4 rfl ?_ ?_
  · refine j_iload_n dX10_bathTold_11 rfl rfl ?_
    refine j_if (fun hc0 => ?_) (fun hc0 => ?_)
    · refine j_tsIn (tgt := 44) 0 hc0 dX10_bathTold_12 (by decide) (by decide) rfl rfl ?_
      refine j_aload_n dX10_bathTold_44 rfl rfl ?_
      refine j_getR fl_RX10_10 sh_0 rfl dX10_bathTold_45 ?_
      refine j_getR fl_RX10_108 sh_1 rfl dX10_bathTold_48 ?_
      refine j_iload_n dX10_bathTold_51 rfl rfl ?_
      refine j_iald sh_3 dX10_bathTold_52 (fun v3 => ?_)
      exact j_iret hq dX10_bathTold_53
    refine j_if (fun hc1 => ?_) (fun hc1 => ?_)
    · refine j_tsIn (tgt := 54) 1 hc1 dX10_bathTold_12 (by decide) (by decide) rfl rfl ?_
      refine j_aload_n dX10_bathTold_54 rfl rfl ?_
      refine j_getR fl_RX10_10 sh_0 rfl dX10_bathTold_55 ?_
      refine j_getR fl_RX10_115 sh_1 rfl dX10_bathTold_58 ?_
      refine j_iload_n dX10_bathTold_61 rfl rfl ?_
      refine j_iald sh_4 dX10_bathTold_62 (fun v4 => ?_)
      exact j_iret hq dX10_bathTold_63
    refine j_if (fun hc2 => ?_) (fun hc2 => ?_)
    · refine j_tsIn (tgt := 64) 2 hc2 dX10_bathTold_12 (by decide) (by decide) rfl rfl ?_
      refine j_aload_n dX10_bathTold_64 rfl rfl ?_
      refine j_getR fl_RX10_10 sh_0 rfl dX10_bathTold_65 ?_
      refine j_getR fl_RX10_127 sh_1 rfl dX10_bathTold_68 ?_
      refine j_iload_n dX10_bathTold_71 rfl rfl ?_
      refine j_iald sh_5 dX10_bathTold_72 (fun v5 => ?_)
      exact j_iret hq dX10_bathTold_73
    refine j_if (fun hc3 => ?_) (fun hc3 => ?_)
    · refine j_tsIn (tgt := 74) 3 hc3 dX10_bathTold_12 (by decide) (by decide) rfl rfl ?_
      refine j_aload_n dX10_bathTold_74 rfl rfl ?_
      refine j_getR fl_RX10_10 sh_0 rfl dX10_bathTold_75 ?_
      refine j_iload_n dX10_bathTold_78 rfl rfl ?_
      refine j_callVi (mX9_activity (kl K) (kD K) (kad K) (kcA K) a1 s2) cw_RX10_130 sh_1 rfl ⟨rfl, rfl, by decide, by decide⟩ rfl rfl (Nat.le_of_ble_eq_true rfl) dX10_bathTold_79 (fun r6 s7 => ?_)
      exact j_iret hq dX10_bathTold_82
    refine j_tsOut (tgt := 83) dX10_bathTold_12 (by omega) rfl ?_
    refine j_sipush (v := (-1000)) dX10_bathTold_83 (by decide +kernel) (inr_d rfl) ?_
    exact j_iret hq dX10_bathTold_86
  · refine j_sipush (v := (-1000)) dX10_bathTold_7 (by decide +kernel) (inr_d rfl) ?_
    exact j_iret hq dX10_bathTold_10
abbrev rmX10_feet : Room := { frames := 2, cells := 0, slots := 0, locals := 45 }
theorem dX10_feet_0 : decode cX10_feet 0 = .ok (.iload_n 1, 1) := by decide +kernel
theorem dX10_feet_1 : decode cX10_feet 1 = .ok (.invokestatic 105, 3) := by decide +kernel
theorem dX10_feet_4 : decode cX10_feet 4 = .ok (.ifCond .eq 14, 3) := by decide +kernel
theorem dX10_feet_7 : decode cX10_feet 7 = .ok (.iload_n 2, 1) := by decide +kernel
theorem dX10_feet_8 : decode cX10_feet 8 = .ok (.iconst 1, 1) := by decide +kernel
theorem dX10_feet_9 : decode cX10_feet 9 = .ok (.sipush 10000, 3) := by decide +kernel
theorem dX10_feet_12 : decode cX10_feet 12 = .ok (.invokestatic 97, 3) := by decide +kernel
theorem dX10_feet_15 : decode cX10_feet 15 = .ok (.ifCond .ne 5, 3) := by decide +kernel
theorem dX10_feet_18 : decode cX10_feet 18 = .ok (.iconst (-1), 1) := by decide +kernel
theorem dX10_feet_19 : decode cX10_feet 19 = .ok (.ireturn, 1) := by decide +kernel
theorem dX10_feet_20 : decode cX10_feet 20 = .ok (.aload_n 0, 1) := by decide +kernel
theorem dX10_feet_21 : decode cX10_feet 21 = .ok (.getfield 10, 3) := by decide +kernel
theorem dX10_feet_24 : decode cX10_feet 24 = .ok (.iload_n 1, 1) := by decide +kernel
theorem dX10_feet_25 : decode cX10_feet 25 = .ok (.iload_n 2, 1) := by decide +kernel
theorem dX10_feet_26 : decode cX10_feet 26 = .ok (.invokevirtual 134, 3) := by decide +kernel
theorem dX10_feet_29 : decode cX10_feet 29 = .ok (.aload_n 0, 1) := by decide +kernel
theorem dX10_feet_30 : decode cX10_feet 30 = .ok (.getfield 10, 3) := by decide +kernel
theorem dX10_feet_33 : decode cX10_feet 33 = .ok (.getfield 108, 3) := by decide +kernel
theorem dX10_feet_36 : decode cX10_feet 36 = .ok (.iload_n 1, 1) := by decide +kernel
theorem dX10_feet_37 : decode cX10_feet 37 = .ok (.iaload, 1) := by decide +kernel
theorem dX10_feet_38 : decode cX10_feet 38 = .ok (.ireturn, 1) := by decide +kernel
def fX10_feet (a1 : Int) (a2 : Int) (s0 : Mem) : Option Res :=
 bnd (fX10_isBath a1 s0) (fun r1 s2 =>
 (if r1 = 0 then
 some ((-1), s2)
 else
 bnd (fX10_isWithin a2 1 10000 s2) (fun r3 s4 =>
 (if r3 ≠ 0 then
 bnd (fX9_pass a1 a2 s4) (fun _ s6 =>
 rd (s6 3) a1 2 (fun v7 =>
 some (v7, s6)))
 else
 some ((-1), s4)))))
set_option maxRecDepth 100000 in
set_option maxHeartbeats 4000000 in
theorem mX10_feet (l : Launch) (D : va_G) (ad : Nat → Nat) (cA : Nat → ClassId) (a1 : Int) (a2 : Int) (s0 : Mem) : MCi l D ad cA yX10_feet cX10_feet 3 (some .int) rmX10_feet [.inr (.inr 0), .inl a1, .inl a2] s0 (fX10_feet a1 a2 s0) := by
  refine MCi_ofE (own := RX10) (ls := [some (.inr (.inr 0)), some (.inl a1), some (.inl a2)]) 0 (by decide +kernel) rfl rfl (fun _ => Nat.le_of_ble_eq_true rfl) (fun K hq => ?_)
  unfold fX10_feet
  refine j_iload_n dX10_feet_0 rfl rfl ?_
  refine j_callSi (mX10_isBath (kl K) (kD K) (kad K) (kcA K) a1 s0) cw_RX10_105 ⟨rfl, rfl, by decide, by decide⟩ rfl rfl (Nat.le_of_ble_eq_true rfl) dX10_feet_1 (fun r1 s2 => ?_)
  refine j_if_eq (tgt := 18) dX10_feet_4 rfl ?_ ?_
  · refine j_iconst dX10_feet_18 (inr_d rfl) ?_
    exact j_iret hq dX10_feet_19
  · refine j_iload_n dX10_feet_7 rfl rfl ?_
    refine j_iconst dX10_feet_8 (inr_d rfl) ?_
    refine j_sipush (v := 10000) dX10_feet_9 (by decide +kernel) (inr_d rfl) ?_
    refine j_callSi (mX10_isWithin (kl K) (kD K) (kad K) (kcA K) a2 1 10000 s2) cw_RX10_97 ⟨rfl, rfl, by decide, by decide⟩ rfl rfl (Nat.le_of_ble_eq_true rfl) dX10_feet_12 (fun r3 s4 => ?_)
    refine j_if_ne (tgt := 20) dX10_feet_15 rfl ?_ ?_
    · refine j_aload_n dX10_feet_20 rfl rfl ?_
      refine j_getR fl_RX10_10 sh_0 rfl dX10_feet_21 ?_
      refine j_iload_n dX10_feet_24 rfl rfl ?_
      refine j_iload_n dX10_feet_25 rfl rfl ?_
      refine j_callVv (mX9_pass (kl K) (kD K) (kad K) (kcA K) a1 a2 s4) cw_RX10_134 sh_1 rfl ⟨rfl, rfl, by decide, by decide⟩ rfl rfl (Nat.le_of_ble_eq_true rfl) dX10_feet_26 (fun _ s6 => ?_)
      refine j_aload_n dX10_feet_29 rfl rfl ?_
      refine j_getR fl_RX10_10 sh_0 rfl dX10_feet_30 ?_
      refine j_getR fl_RX10_108 sh_1 rfl dX10_feet_33 ?_
      refine j_iload_n dX10_feet_36 rfl rfl ?_
      refine j_iald sh_3 dX10_feet_37 (fun v7 => ?_)
      exact j_iret hq dX10_feet_38
    · refine j_iconst dX10_feet_18 (inr_d rfl) ?_
      exact j_iret hq dX10_feet_19
abbrev rmX10_isPrint : Room := { frames := 1, cells := 0, slots := 0, locals := 22 }
theorem dX10_isPrint_0 : decode cX10_isPrint 0 = .ok (.iload_n 0, 1) := by decide +kernel
theorem dX10_isPrint_1 : decode cX10_isPrint 1 = .ok (.iconst 1, 1) := by decide +kernel
theorem dX10_isPrint_2 : decode cX10_isPrint 2 = .ok (.bipush 50, 2) := by decide +kernel
theorem dX10_isPrint_4 : decode cX10_isPrint 4 = .ok (.invokestatic 97, 3) := by decide +kernel
theorem dX10_isPrint_7 : decode cX10_isPrint 7 = .ok (.ifCond .eq 17, 3) := by decide +kernel
theorem dX10_isPrint_10 : decode cX10_isPrint 10 = .ok (.iload_n 1, 1) := by decide +kernel
theorem dX10_isPrint_11 : decode cX10_isPrint 11 = .ok (.iconst 0, 1) := by decide +kernel
theorem dX10_isPrint_12 : decode cX10_isPrint 12 = .ok (.bipush 60, 2) := by decide +kernel
theorem dX10_isPrint_14 : decode cX10_isPrint 14 = .ok (.invokestatic 97, 3) := by decide +kernel
theorem dX10_isPrint_17 : decode cX10_isPrint 17 = .ok (.ifCond .eq 7, 3) := by decide +kernel
theorem dX10_isPrint_20 : decode cX10_isPrint 20 = .ok (.iconst 1, 1) := by decide +kernel
theorem dX10_isPrint_21 : decode cX10_isPrint 21 = .ok (.goto 4, 3) := by decide +kernel
theorem dX10_isPrint_24 : decode cX10_isPrint 24 = .ok (.iconst 0, 1) := by decide +kernel
theorem dX10_isPrint_25 : decode cX10_isPrint 25 = .ok (.ireturn, 1) := by decide +kernel
def fX10_isPrint (a0 : Int) (a1 : Int) (s0 : Mem) : Option Res :=
 bnd (fX10_isWithin a0 1 50 s0) (fun r1 s2 =>
 (if r1 = 0 then
 zr 0 s2
 else
 bnd (fX10_isWithin a1 0 60 s2) (fun r3 s4 =>
 (if r3 = 0 then
 zr 0 s4
 else
 zr 1 s4))))
set_option maxRecDepth 100000 in
set_option maxHeartbeats 4000000 in
theorem mX10_isPrint (l : Launch) (D : va_G) (ad : Nat → Nat) (cA : Nat → ClassId) (a0 : Int) (a1 : Int) (s0 : Mem) : MCi l D ad cA yX10_isPrint cX10_isPrint 2 (some .boolean) rmX10_isPrint [.inl a0, .inl a1] s0 (fX10_isPrint a0 a1 s0) := by
  refine MCi_ofE (own := RX10) (ls := [some (.inl a0), some (.inl a1)]) 0 (by decide +kernel) rfl rfl (fun _ => Nat.le_of_ble_eq_true rfl) (fun K hq => ?_)
  unfold fX10_isPrint
  refine j_iload_n dX10_isPrint_0 rfl rfl ?_
  refine j_iconst dX10_isPrint_1 (inr_d rfl) ?_
  refine j_bipush (v := 50) dX10_isPrint_2 (by decide +kernel) (inr_d rfl) ?_
  refine j_callSi (mX10_isWithin (kl K) (kD K) (kad K) (kcA K) a0 1 50 s0) cw_RX10_97 ⟨rfl, rfl, by decide, by decide⟩ rfl rfl (Nat.le_of_ble_eq_true rfl) dX10_isPrint_4 (fun r1 s2 => ?_)
  refine j_if_eq (tgt := 24) dX10_isPrint_7 rfl ?_ ?_
  · refine j_iconst dX10_isPrint_24 (inr_d rfl) ?_
    exact j_zret hq dX10_isPrint_25
  · refine j_iload_n dX10_isPrint_10 rfl rfl ?_
    refine j_iconst dX10_isPrint_11 (inr_d rfl) ?_
    refine j_bipush (v := 60) dX10_isPrint_12 (by decide +kernel) (inr_d rfl) ?_
    refine j_callSi (mX10_isWithin (kl K) (kD K) (kad K) (kcA K) a1 0 60 s2) cw_RX10_97 ⟨rfl, rfl, by decide, by decide⟩ rfl rfl (Nat.le_of_ble_eq_true rfl) dX10_isPrint_14 (fun r3 s4 => ?_)
    refine j_if_eq (tgt := 24) dX10_isPrint_17 rfl ?_ ?_
    · refine j_iconst dX10_isPrint_24 (inr_d rfl) ?_
      exact j_zret hq dX10_isPrint_25
    · refine j_iconst dX10_isPrint_20 (inr_d rfl) ?_
      refine j_goto (tgt := 25) dX10_isPrint_21 rfl ?_
      exact j_zret hq dX10_isPrint_25
abbrev rmX10_exposure : Room := { frames := 3, cells := 0, slots := 0, locals := 67 }
theorem dX10_exposure_0 : decode cX10_exposure 0 = .ok (.iload_n 1, 1) := by decide +kernel
theorem dX10_exposure_1 : decode cX10_exposure 1 = .ok (.invokestatic 94, 3) := by decide +kernel
theorem dX10_exposure_4 : decode cX10_exposure 4 = .ok (.ifCond .eq 19, 3) := by decide +kernel
theorem dX10_exposure_7 : decode cX10_exposure 7 = .ok (.iload_n 2, 1) := by decide +kernel
theorem dX10_exposure_8 : decode cX10_exposure 8 = .ok (.iload_n 3, 1) := by decide +kernel
theorem dX10_exposure_9 : decode cX10_exposure 9 = .ok (.invokestatic 138, 3) := by decide +kernel
theorem dX10_exposure_12 : decode cX10_exposure 12 = .ok (.ifCond .eq 11, 3) := by decide +kernel
theorem dX10_exposure_15 : decode cX10_exposure 15 = .ok (.iload 4, 2) := by decide +kernel
theorem dX10_exposure_17 : decode cX10_exposure 17 = .ok (.invokestatic 105, 3) := by decide +kernel
theorem dX10_exposure_20 : decode cX10_exposure 20 = .ok (.ifCond .ne 7, 3) := by decide +kernel
theorem dX10_exposure_23 : decode cX10_exposure 23 = .ok (.sipush (-1000), 3) := by decide +kernel
theorem dX10_exposure_26 : decode cX10_exposure 26 = .ok (.ireturn, 1) := by decide +kernel
theorem dX10_exposure_27 : decode cX10_exposure 27 = .ok (.aload_n 0, 1) := by decide +kernel
theorem dX10_exposure_28 : decode cX10_exposure 28 = .ok (.getfield 10, 3) := by decide +kernel
theorem dX10_exposure_31 : decode cX10_exposure 31 = .ok (.iload_n 1, 1) := by decide +kernel
theorem dX10_exposure_32 : decode cX10_exposure 32 = .ok (.iload_n 2, 1) := by decide +kernel
theorem dX10_exposure_33 : decode cX10_exposure 33 = .ok (.iload_n 3, 1) := by decide +kernel
theorem dX10_exposure_34 : decode cX10_exposure 34 = .ok (.iload 4, 2) := by decide +kernel
theorem dX10_exposure_36 : decode cX10_exposure 36 = .ok (.invokevirtual 142, 3) := by decide +kernel
theorem dX10_exposure_39 : decode cX10_exposure 39 = .ok (.ireturn, 1) := by decide +kernel
def fX10_exposure (a1 : Int) (a2 : Int) (a3 : Int) (a4 : Int) (s0 : Mem) : Option Res :=
 bnd (fX10_isColour a1 s0) (fun r1 s2 =>
 (if r1 = 0 then
 some ((-1000), s2)
 else
 bnd (fX10_isPrint a2 a3 s2) (fun r3 s4 =>
 (if r3 = 0 then
 some ((-1000), s4)
 else
 bnd (fX10_isBath a4 s4) (fun r5 s6 =>
 (if r5 ≠ 0 then
 bnd (fX9_exposureOf a1 a2 a3 a4 s6) (fun r7 s8 =>
 some (r7, s8))
 else
 some ((-1000), s6)))))))
set_option maxRecDepth 100000 in
set_option maxHeartbeats 4000000 in
theorem mX10_exposure (l : Launch) (D : va_G) (ad : Nat → Nat) (cA : Nat → ClassId) (a1 : Int) (a2 : Int) (a3 : Int) (a4 : Int) (s0 : Mem) : MCi l D ad cA yX10_exposure cX10_exposure 5 (some .int) rmX10_exposure [.inr (.inr 0), .inl a1, .inl a2, .inl a3, .inl a4] s0 (fX10_exposure a1 a2 a3 a4 s0) := by
  refine MCi_ofE (own := RX10) (ls := [some (.inr (.inr 0)), some (.inl a1), some (.inl a2), some (.inl a3), some (.inl a4)]) 0 (by decide +kernel) rfl rfl (fun _ => Nat.le_of_ble_eq_true rfl) (fun K hq => ?_)
  unfold fX10_exposure
  refine j_iload_n dX10_exposure_0 rfl rfl ?_
  refine j_callSi (mX10_isColour (kl K) (kD K) (kad K) (kcA K) a1 s0) cw_RX10_94 ⟨rfl, rfl, by decide, by decide⟩ rfl rfl (Nat.le_of_ble_eq_true rfl) dX10_exposure_1 (fun r1 s2 => ?_)
  refine j_if_eq (tgt := 23) dX10_exposure_4 rfl ?_ ?_
  · refine j_sipush (v := (-1000)) dX10_exposure_23 (by decide +kernel) (inr_d rfl) ?_
    exact j_iret hq dX10_exposure_26
  · refine j_iload_n dX10_exposure_7 rfl rfl ?_
    refine j_iload_n dX10_exposure_8 rfl rfl ?_
    refine j_callSi (mX10_isPrint (kl K) (kD K) (kad K) (kcA K) a2 a3 s2) cw_RX10_138 ⟨rfl, rfl, by decide, by decide⟩ rfl rfl (Nat.le_of_ble_eq_true rfl) dX10_exposure_9 (fun r3 s4 => ?_)
    refine j_if_eq (tgt := 23) dX10_exposure_12 rfl ?_ ?_
    · refine j_sipush (v := (-1000)) dX10_exposure_23 (by decide +kernel) (inr_d rfl) ?_
      exact j_iret hq dX10_exposure_26
    · refine j_iload dX10_exposure_15 rfl ?_
      refine j_callSi (mX10_isBath (kl K) (kD K) (kad K) (kcA K) a4 s4) cw_RX10_105 ⟨rfl, rfl, by decide, by decide⟩ rfl rfl (Nat.le_of_ble_eq_true rfl) dX10_exposure_17 (fun r5 s6 => ?_)
      refine j_if_ne (tgt := 27) dX10_exposure_20 rfl ?_ ?_
      · refine j_aload_n dX10_exposure_27 rfl rfl ?_
        refine j_getR fl_RX10_10 sh_0 rfl dX10_exposure_28 ?_
        refine j_iload_n dX10_exposure_31 rfl rfl ?_
        refine j_iload_n dX10_exposure_32 rfl rfl ?_
        refine j_iload_n dX10_exposure_33 rfl rfl ?_
        refine j_iload dX10_exposure_34 rfl ?_
        refine j_callVi (mX9_exposureOf (kl K) (kD K) (kad K) (kcA K) a1 a2 a3 a4 s6) cw_RX10_142 sh_1 rfl ⟨rfl, rfl, by decide, by decide⟩ rfl rfl (Nat.le_of_ble_eq_true rfl) dX10_exposure_36 (fun r7 s8 => ?_)
        exact j_iret hq dX10_exposure_39
      · refine j_sipush (v := (-1000)) dX10_exposure_23 (by decide +kernel) (inr_d rfl) ?_
        exact j_iret hq dX10_exposure_26
abbrev rmX10_tone : Room := { frames := 4, cells := 0, slots := 0, locals := 92 }
theorem dX10_tone_0 : decode cX10_tone 0 = .ok (.iload_n 1, 1) := by decide +kernel
theorem dX10_tone_1 : decode cX10_tone 1 = .ok (.invokestatic 90, 3) := by decide +kernel
theorem dX10_tone_4 : decode cX10_tone 4 = .ok (.ifCond .eq 27, 3) := by decide +kernel
theorem dX10_tone_7 : decode cX10_tone 7 = .ok (.iload_n 2, 1) := by decide +kernel
theorem dX10_tone_8 : decode cX10_tone 8 = .ok (.invokestatic 94, 3) := by decide +kernel
theorem dX10_tone_11 : decode cX10_tone 11 = .ok (.ifCond .eq 20, 3) := by decide +kernel
theorem dX10_tone_14 : decode cX10_tone 14 = .ok (.iload_n 3, 1) := by decide +kernel
theorem dX10_tone_15 : decode cX10_tone 15 = .ok (.iload 4, 2) := by decide +kernel
theorem dX10_tone_17 : decode cX10_tone 17 = .ok (.invokestatic 138, 3) := by decide +kernel
theorem dX10_tone_20 : decode cX10_tone 20 = .ok (.ifCond .eq 11, 3) := by decide +kernel
theorem dX10_tone_23 : decode cX10_tone 23 = .ok (.iload 5, 2) := by decide +kernel
theorem dX10_tone_25 : decode cX10_tone 25 = .ok (.invokestatic 105, 3) := by decide +kernel
theorem dX10_tone_28 : decode cX10_tone 28 = .ok (.ifCond .ne 5, 3) := by decide +kernel
theorem dX10_tone_31 : decode cX10_tone 31 = .ok (.iconst (-1), 1) := by decide +kernel
theorem dX10_tone_32 : decode cX10_tone 32 = .ok (.ireturn, 1) := by decide +kernel
theorem dX10_tone_33 : decode cX10_tone 33 = .ok (.iload 6, 2) := by decide +kernel
theorem dX10_tone_35 : decode cX10_tone 35 = .ok (.iconst 1, 1) := by decide +kernel
theorem dX10_tone_36 : decode cX10_tone 36 = .ok (.iconst 5, 1) := by decide +kernel
theorem dX10_tone_37 : decode cX10_tone 37 = .ok (.invokestatic 97, 3) := by decide +kernel
theorem dX10_tone_40 : decode cX10_tone 40 = .ok (.ifCond .ne 5, 3) := by decide +kernel
theorem dX10_tone_43 : decode cX10_tone 43 = .ok (.iconst (-1), 1) := by decide +kernel
theorem dX10_tone_44 : decode cX10_tone 44 = .ok (.ireturn, 1) := by decide +kernel
theorem dX10_tone_45 : decode cX10_tone 45 = .ok (.aload_n 0, 1) := by decide +kernel
theorem dX10_tone_46 : decode cX10_tone 46 = .ok (.getfield 10, 3) := by decide +kernel
theorem dX10_tone_49 : decode cX10_tone 49 = .ok (.iload_n 1, 1) := by decide +kernel
theorem dX10_tone_50 : decode cX10_tone 50 = .ok (.iload_n 2, 1) := by decide +kernel
theorem dX10_tone_51 : decode cX10_tone 51 = .ok (.iload_n 3, 1) := by decide +kernel
theorem dX10_tone_52 : decode cX10_tone 52 = .ok (.iload 4, 2) := by decide +kernel
theorem dX10_tone_54 : decode cX10_tone 54 = .ok (.iload 5, 2) := by decide +kernel
theorem dX10_tone_56 : decode cX10_tone 56 = .ok (.invokevirtual 145, 3) := by decide +kernel
theorem dX10_tone_59 : decode cX10_tone 59 = .ok (.istore 7, 2) := by decide +kernel
theorem dX10_tone_61 : decode cX10_tone 61 = .ok (.iconst 2, 1) := by decide +kernel
theorem dX10_tone_62 : decode cX10_tone 62 = .ok (.istore 8, 2) := by decide +kernel
theorem dX10_tone_64 : decode cX10_tone 64 = .ok (.iload 8, 2) := by decide +kernel
theorem dX10_tone_66 : decode cX10_tone 66 = .ok (.iload 6, 2) := by decide +kernel
theorem dX10_tone_68 : decode cX10_tone 68 = .ok (.if_icmp .gt 28, 3) := by decide +kernel
theorem dX10_tone_71 : decode cX10_tone 71 = .ok (.aload_n 0, 1) := by decide +kernel
theorem dX10_tone_72 : decode cX10_tone 72 = .ok (.getfield 10, 3) := by decide +kernel
theorem dX10_tone_75 : decode cX10_tone 75 = .ok (.iload_n 1, 1) := by decide +kernel
theorem dX10_tone_76 : decode cX10_tone 76 = .ok (.iload_n 2, 1) := by decide +kernel
theorem dX10_tone_77 : decode cX10_tone 77 = .ok (.iload_n 3, 1) := by decide +kernel
theorem dX10_tone_78 : decode cX10_tone 78 = .ok (.iload 7, 2) := by decide +kernel
theorem dX10_tone_80 : decode cX10_tone 80 = .ok (.invokestatic 149, 3) := by decide +kernel
theorem dX10_tone_83 : decode cX10_tone 83 = .ok (.iload 5, 2) := by decide +kernel
theorem dX10_tone_85 : decode cX10_tone 85 = .ok (.invokevirtual 145, 3) := by decide +kernel
theorem dX10_tone_88 : decode cX10_tone 88 = .ok (.istore 7, 2) := by decide +kernel
theorem dX10_tone_90 : decode cX10_tone 90 = .ok (.iinc 8 1, 3) := by decide +kernel
theorem dX10_tone_93 : decode cX10_tone 93 = .ok (.goto (-29), 3) := by decide +kernel
theorem dX10_tone_96 : decode cX10_tone 96 = .ok (.iload 7, 2) := by decide +kernel
theorem dX10_tone_98 : decode cX10_tone 98 = .ok (.ireturn, 1) := by decide +kernel
def LX10_tone_64 (c1 : Int) (c2 : Int) (c3 : Int) (c5 : Int) (c6 : Int) (k96 : Int → Mem → Option Res) : Nat → Int → Int → Mem → Option Res
  | 0 => fun _ _ _ => none
  | n + 1 => fun x7 x8 s => (if c6 < x8 then
 k96 x7 s
 else
 bnd (fX9_densityOf x7 s) (fun r13 s14 =>
 bnd (fX9_printed c1 c2 c3 r13 c5 s14) (fun r15 s16 =>
 LX10_tone_64 c1 c2 c3 c5 c6 k96 n r15 (wr (x8 + 1)) s16)))
def fX10_tone (a1 : Int) (a2 : Int) (a3 : Int) (a4 : Int) (a5 : Int) (a6 : Int) (s0 : Mem) : Option Res :=
 bnd (fX10_isStock a1 s0) (fun r1 s2 =>
 (if r1 = 0 then
 some ((-1), s2)
 else
 bnd (fX10_isColour a2 s2) (fun r3 s4 =>
 (if r3 = 0 then
 some ((-1), s4)
 else
 bnd (fX10_isPrint a3 a4 s4) (fun r5 s6 =>
 (if r5 = 0 then
 some ((-1), s6)
 else
 bnd (fX10_isBath a5 s6) (fun r7 s8 =>
 (if r7 ≠ 0 then
 bnd (fX10_isWithin a6 1 5 s8) (fun r9 s10 =>
 (if r9 ≠ 0 then
 bnd (fX9_printed a1 a2 a3 a4 a5 s10) (fun r11 s12 =>
 LX10_tone_64 a1 a2 a3 a5 a6 (fun y18 s17 =>
 some (y18, s17)) FU r11 2 s12)
 else
 some ((-1), s10)))
 else
 some ((-1), s8)))))))))
set_option maxRecDepth 100000 in
set_option maxHeartbeats 4000000 in
theorem jLX10_tone_64 {K : KT} (hq : KI K (some .int)) (c1 : Int) (c2 : Int) (c3 : Int) (c5 : Int) (c6 : Int) (k96 : Int → Mem → Option Res) (hk96 : ∀ (y7 : Int) (s : Mem), J K rmX10_tone cX10_tone RX10 9 96 [none, none, none, none, none, none, none, some (.inl y7), none] [] s (k96 y7 s)) : ∀ (n : Nat) (x7 : Int) (x8 : Int) (s : Mem), J K rmX10_tone cX10_tone RX10 9 64 [some (.inr (.inr 0)), some (.inl c1), some (.inl c2), some (.inl c3), none, some (.inl c5), some (.inl c6), some (.inl x7), some (.inl x8)] [] s (LX10_tone_64 c1 c2 c3 c5 c6 k96 n x7 x8 s) := by
  intro n
  induction n with
  | zero => intros; exact J_none
  | succ n ih =>
    intro x7 x8 s
    show J K _ _ _ _ _ _ _ _ (LX10_tone_64 c1 c2 c3 c5 c6 k96 (n + 1) x7 x8 s)
    simp only [LX10_tone_64]
    refine j_iload dX10_tone_64 rfl ?_
    refine j_iload dX10_tone_66 rfl ?_
    refine j_icmp_gt (tgt := 96) dX10_tone_68 rfl ?_ ?_
    · exact j_msk [false, false, false, false, false, false, false, true, false] (hk96 _ _)
    · refine j_aload_n dX10_tone_71 rfl rfl ?_
      refine j_getR fl_RX10_10 sh_0 rfl dX10_tone_72 ?_
      refine j_iload_n dX10_tone_75 rfl rfl ?_
      refine j_iload_n dX10_tone_76 rfl rfl ?_
      refine j_iload_n dX10_tone_77 rfl rfl ?_
      refine j_iload dX10_tone_78 rfl ?_
      refine j_callSi (mX9_densityOf (kl K) (kD K) (kad K) (kcA K) x7 s) cw_RX10_149 ⟨rfl, rfl, by decide, by decide⟩ rfl rfl (Nat.le_of_ble_eq_true rfl) dX10_tone_80 (fun r13 s14 => ?_)
      refine j_iload dX10_tone_83 rfl ?_
      refine j_callVi (mX9_printed (kl K) (kD K) (kad K) (kcA K) c1 c2 c3 r13 c5 s14) cw_RX10_145 sh_1 rfl ⟨rfl, rfl, by decide, by decide⟩ rfl rfl (Nat.le_of_ble_eq_true rfl) dX10_tone_85 (fun r15 s16 => ?_)
      refine j_istoreE (ls2 := [some (.inr (.inr 0)), some (.inl c1), some (.inl c2), some (.inl c3), none, some (.inl c5), some (.inl c6), some (.inl r15), some (.inl x8)]) dX10_tone_88 (by decide) rfl rfl ?_
      refine j_iincE (ls2 := [some (.inr (.inr 0)), some (.inl c1), some (.inl c2), some (.inl c3), none, some (.inl c5), some (.inl c6), some (.inl r15), some (.inl (wr (x8 + 1)))]) dX10_tone_90 rfl (by decide) rfl rfl ?_
      refine j_goto (tgt := 64) dX10_tone_93 rfl ?_
      exact j_msk [true, true, true, true, false, true, true, true, true] (ih _ _ _)
set_option maxRecDepth 100000 in
set_option maxHeartbeats 4000000 in
theorem mX10_tone (l : Launch) (D : va_G) (ad : Nat → Nat) (cA : Nat → ClassId) (a1 : Int) (a2 : Int) (a3 : Int) (a4 : Int) (a5 : Int) (a6 : Int) (s0 : Mem) : MCi l D ad cA yX10_tone cX10_tone 9 (some .int) rmX10_tone [.inr (.inr 0), .inl a1, .inl a2, .inl a3, .inl a4, .inl a5, .inl a6] s0 (fX10_tone a1 a2 a3 a4 a5 a6 s0) := by
  refine MCi_ofE (own := RX10) (ls := [some (.inr (.inr 0)), some (.inl a1), some (.inl a2), some (.inl a3), some (.inl a4), some (.inl a5), some (.inl a6), none, none]) 2 (by decide +kernel) rfl rfl (fun _ => Nat.le_of_ble_eq_true rfl) (fun K hq => ?_)
  unfold fX10_tone
  refine j_iload_n dX10_tone_0 rfl rfl ?_
  refine j_callSi (mX10_isStock (kl K) (kD K) (kad K) (kcA K) a1 s0) cw_RX10_90 ⟨rfl, rfl, by decide, by decide⟩ rfl rfl (Nat.le_of_ble_eq_true rfl) dX10_tone_1 (fun r1 s2 => ?_)
  refine j_if_eq (tgt := 31) dX10_tone_4 rfl ?_ ?_
  · refine j_iconst dX10_tone_31 (inr_d rfl) ?_
    exact j_iret hq dX10_tone_32
  · refine j_iload_n dX10_tone_7 rfl rfl ?_
    refine j_callSi (mX10_isColour (kl K) (kD K) (kad K) (kcA K) a2 s2) cw_RX10_94 ⟨rfl, rfl, by decide, by decide⟩ rfl rfl (Nat.le_of_ble_eq_true rfl) dX10_tone_8 (fun r3 s4 => ?_)
    refine j_if_eq (tgt := 31) dX10_tone_11 rfl ?_ ?_
    · refine j_iconst dX10_tone_31 (inr_d rfl) ?_
      exact j_iret hq dX10_tone_32
    · refine j_iload_n dX10_tone_14 rfl rfl ?_
      refine j_iload dX10_tone_15 rfl ?_
      refine j_callSi (mX10_isPrint (kl K) (kD K) (kad K) (kcA K) a3 a4 s4) cw_RX10_138 ⟨rfl, rfl, by decide, by decide⟩ rfl rfl (Nat.le_of_ble_eq_true rfl) dX10_tone_17 (fun r5 s6 => ?_)
      refine j_if_eq (tgt := 31) dX10_tone_20 rfl ?_ ?_
      · refine j_iconst dX10_tone_31 (inr_d rfl) ?_
        exact j_iret hq dX10_tone_32
      · refine j_iload dX10_tone_23 rfl ?_
        refine j_callSi (mX10_isBath (kl K) (kD K) (kad K) (kcA K) a5 s6) cw_RX10_105 ⟨rfl, rfl, by decide, by decide⟩ rfl rfl (Nat.le_of_ble_eq_true rfl) dX10_tone_25 (fun r7 s8 => ?_)
        refine j_if_ne (tgt := 33) dX10_tone_28 rfl ?_ ?_
        · refine j_iload dX10_tone_33 rfl ?_
          refine j_iconst dX10_tone_35 (inr_d rfl) ?_
          refine j_iconst dX10_tone_36 (inr_d rfl) ?_
          refine j_callSi (mX10_isWithin (kl K) (kD K) (kad K) (kcA K) a6 1 5 s8) cw_RX10_97 ⟨rfl, rfl, by decide, by decide⟩ rfl rfl (Nat.le_of_ble_eq_true rfl) dX10_tone_37 (fun r9 s10 => ?_)
          refine j_if_ne (tgt := 45) dX10_tone_40 rfl ?_ ?_
          · refine j_aload_n dX10_tone_45 rfl rfl ?_
            refine j_getR fl_RX10_10 sh_0 rfl dX10_tone_46 ?_
            refine j_iload_n dX10_tone_49 rfl rfl ?_
            refine j_iload_n dX10_tone_50 rfl rfl ?_
            refine j_iload_n dX10_tone_51 rfl rfl ?_
            refine j_iload dX10_tone_52 rfl ?_
            refine j_iload dX10_tone_54 rfl ?_
            refine j_callVi (mX9_printed (kl K) (kD K) (kad K) (kcA K) a1 a2 a3 a4 a5 s10) cw_RX10_145 sh_1 rfl ⟨rfl, rfl, by decide, by decide⟩ rfl rfl (Nat.le_of_ble_eq_true rfl) dX10_tone_56 (fun r11 s12 => ?_)
            refine j_istoreE (ls2 := [some (.inr (.inr 0)), some (.inl a1), some (.inl a2), some (.inl a3), some (.inl a4), some (.inl a5), some (.inl a6), some (.inl r11), none]) dX10_tone_59 (by decide) rfl rfl ?_
            refine j_iconst dX10_tone_61 (inr_d rfl) ?_
            refine j_istoreE (ls2 := [some (.inr (.inr 0)), some (.inl a1), some (.inl a2), some (.inl a3), some (.inl a4), some (.inl a5), some (.inl a6), some (.inl r11), some (.inl 2)]) dX10_tone_62 (by decide) rfl rfl ?_
            refine j_msk [true, true, true, true, false, true, true, true, true] (jLX10_tone_64 hq _ _ _ _ _ _ (fun y18 s17 => ?_) _ _ _ _)
            refine j_iload dX10_tone_96 rfl ?_
            exact j_iret hq dX10_tone_98
          · refine j_iconst dX10_tone_43 (inr_d rfl) ?_
            exact j_iret hq dX10_tone_44
        · refine j_iconst dX10_tone_31 (inr_d rfl) ?_
          exact j_iret hq dX10_tone_32
abbrev rmX10_write : Room := { frames := 1, cells := 0, slots := 0, locals := 24 }
theorem dX10_write_0 : decode cX10_write 0 = .ok (.iload_n 1, 1) := by decide +kernel
theorem dX10_write_1 : decode cX10_write 1 = .ok (.iconst 1, 1) := by decide +kernel
theorem dX10_write_2 : decode cX10_write 2 = .ok (.bipush 8, 2) := by decide +kernel
theorem dX10_write_4 : decode cX10_write 4 = .ok (.invokestatic 97, 3) := by decide +kernel
theorem dX10_write_7 : decode cX10_write 7 = .ok (.ifCond .ne 5, 3) := by decide +kernel
theorem dX10_write_10 : decode cX10_write 10 = .ok (.iconst (-1), 1) := by decide +kernel
theorem dX10_write_11 : decode cX10_write 11 = .ok (.ireturn, 1) := by decide +kernel
theorem dX10_write_12 : decode cX10_write 12 = .ok (.aload_n 0, 1) := by decide +kernel
theorem dX10_write_13 : decode cX10_write 13 = .ok (.getfield 31, 3) := by decide +kernel
theorem dX10_write_16 : decode cX10_write 16 = .ok (.iload_n 1, 1) := by decide +kernel
theorem dX10_write_17 : decode cX10_write 17 = .ok (.lload_n 2, 1) := by decide +kernel
theorem dX10_write_18 : decode cX10_write 18 = .ok (.invokevirtual 152, 3) := by decide +kernel
theorem dX10_write_21 : decode cX10_write 21 = .ok (.ifCond .eq 13, 3) := by decide +kernel
theorem dX10_write_24 : decode cX10_write 24 = .ok (.aload_n 0, 1) := by decide +kernel
theorem dX10_write_25 : decode cX10_write 25 = .ok (.getfield 31, 3) := by decide +kernel
theorem dX10_write_28 : decode cX10_write 28 = .ok (.getfield 156, 3) := by decide +kernel
theorem dX10_write_31 : decode cX10_write 31 = .ok (.goto 5, 3) := by decide +kernel
theorem dX10_write_34 : decode cX10_write 34 = .ok (.bipush (-3), 2) := by decide +kernel
theorem dX10_write_36 : decode cX10_write 36 = .ok (.ireturn, 1) := by decide +kernel
def fX10_write (a1 : Int) (a2 : Int64) (s0 : Mem) : Option Res :=
 bnd (fX10_isWithin a1 1 8 s0) (fun r1 s2 =>
 (if r1 ≠ 0 then
 bnd (fX8_append a1 a2 s2) (fun r3 s4 =>
 (if r3 = 0 then
 some ((-3), s4)
 else
 some (s4 8 1, s4)))
 else
 some ((-1), s2)))
set_option maxRecDepth 100000 in
set_option maxHeartbeats 4000000 in
theorem mX10_write (l : Launch) (D : va_G) (ad : Nat → Nat) (cA : Nat → ClassId) (a1 : Int) (a2 : Int64) (s0 : Mem) : MCi l D ad cA yX10_write cX10_write 4 (some .int) rmX10_write [.inr (.inr 0), .inl a1, .inr (.inl a2)] s0 (fX10_write a1 a2 s0) := by
  refine MCi_ofE (own := RX10) (ls := [some (.inr (.inr 0)), some (.inl a1), some (.inr (.inl a2)), none]) 0 (by decide +kernel) rfl rfl (fun _ => Nat.le_of_ble_eq_true rfl) (fun K hq => ?_)
  unfold fX10_write
  refine j_iload_n dX10_write_0 rfl rfl ?_
  refine j_iconst dX10_write_1 (inr_d rfl) ?_
  refine j_bipush (v := 8) dX10_write_2 (by decide +kernel) (inr_d rfl) ?_
  refine j_callSi (mX10_isWithin (kl K) (kD K) (kad K) (kcA K) a1 1 8 s0) cw_RX10_97 ⟨rfl, rfl, by decide, by decide⟩ rfl rfl (Nat.le_of_ble_eq_true rfl) dX10_write_4 (fun r1 s2 => ?_)
  refine j_if_ne (tgt := 12) dX10_write_7 rfl ?_ ?_
  · refine j_aload_n dX10_write_12 rfl rfl ?_
    refine j_getR fl_RX10_31 sh_0 rfl dX10_write_13 ?_
    refine j_iload_n dX10_write_16 rfl rfl ?_
    refine j_lload_n dX10_write_17 rfl rfl ?_
    refine j_callVi (mX8_append (kl K) (kD K) (kad K) (kcA K) a1 a2 s2) cw_RX10_152 sh_8 rfl ⟨rfl, rfl, by decide, by decide⟩ rfl rfl (Nat.le_of_ble_eq_true rfl) dX10_write_18 (fun r3 s4 => ?_)
    refine j_if_eq (tgt := 34) dX10_write_21 rfl ?_ ?_
    · refine j_bipush (v := (-3)) dX10_write_34 (by decide +kernel) (inr_d rfl) ?_
      exact j_iret hq dX10_write_36
    · refine j_aload_n dX10_write_24 rfl rfl ?_
      refine j_getR fl_RX10_31 sh_0 rfl dX10_write_25 ?_
      refine j_getI fl_RX10_156 sh_8 rfl dX10_write_28 ?_
      refine j_goto (tgt := 36) dX10_write_31 rfl ?_
      exact j_iret hq dX10_write_36
  · refine j_iconst dX10_write_10 (inr_d rfl) ?_
    exact j_iret hq dX10_write_11
abbrev rmX10_clear : Room := { frames := 0, cells := 0, slots := 0, locals := 0 }
theorem dX10_clear_0 : decode cX10_clear 0 = .ok (.aload_n 0, 1) := by decide +kernel
theorem dX10_clear_1 : decode cX10_clear 1 = .ok (.getfield 31, 3) := by decide +kernel
theorem dX10_clear_4 : decode cX10_clear 4 = .ok (.getfield 156, 3) := by decide +kernel
theorem dX10_clear_7 : decode cX10_clear 7 = .ok (.istore_n 1, 1) := by decide +kernel
theorem dX10_clear_8 : decode cX10_clear 8 = .ok (.aload_n 0, 1) := by decide +kernel
theorem dX10_clear_9 : decode cX10_clear 9 = .ok (.getfield 31, 3) := by decide +kernel
theorem dX10_clear_12 : decode cX10_clear 12 = .ok (.iconst 0, 1) := by decide +kernel
theorem dX10_clear_13 : decode cX10_clear 13 = .ok (.putfield 156, 3) := by decide +kernel
theorem dX10_clear_16 : decode cX10_clear 16 = .ok (.iload_n 1, 1) := by decide +kernel
theorem dX10_clear_17 : decode cX10_clear 17 = .ok (.ireturn, 1) := by decide +kernel
def fX10_clear (s0 : Mem) : Option Res :=
 lt (s0 8 1) (fun v1 =>
 lt (up s0 8 1 0) (fun s2 =>
 some (v1, s2)))
set_option maxRecDepth 100000 in
set_option maxHeartbeats 4000000 in
theorem mX10_clear (l : Launch) (D : va_G) (ad : Nat → Nat) (cA : Nat → ClassId) (s0 : Mem) : MCi l D ad cA yX10_clear cX10_clear 2 (some .int) rmX10_clear [.inr (.inr 0)] s0 (fX10_clear s0) := by
  refine MCi_ofE (own := RX10) (ls := [some (.inr (.inr 0)), none]) 1 (by decide +kernel) rfl rfl (fun _ => Nat.le_of_ble_eq_true rfl) (fun K hq => ?_)
  unfold fX10_clear
  refine j_aload_n dX10_clear_0 rfl rfl ?_
  refine j_getR fl_RX10_31 sh_0 rfl dX10_clear_1 ?_
  refine j_getI fl_RX10_156 sh_8 rfl dX10_clear_4 ?_
  refine j_ltv (fun v1 => ?_)
  refine j_istore_nE (ls2 := [some (.inr (.inr 0)), some (.inl v1)]) dX10_clear_7 rfl (by decide) rfl rfl ?_
  refine j_aload_n dX10_clear_8 rfl rfl ?_
  refine j_getR fl_RX10_31 sh_0 rfl dX10_clear_9 ?_
  refine j_iconst dX10_clear_12 (inr_d rfl) ?_
  refine j_putI fp_RX10_156 sh_8 rfl dX10_clear_13 (fun s2 => ?_)
  refine j_iload_n dX10_clear_16 rfl rfl ?_
  exact j_iret hq dX10_clear_17
abbrev rmX10_fault : Room := { frames := 5, cells := 0, slots := 0, locals := 116 }
theorem dX10_fault_0 : decode cX10_fault 0 = .ok (.aload_n 0, 1) := by decide +kernel
theorem dX10_fault_1 : decode cX10_fault 1 = .ok (.getfield 31, 3) := by decide +kernel
theorem dX10_fault_4 : decode cX10_fault 4 = .ok (.aload_n 0, 1) := by decide +kernel
theorem dX10_fault_5 : decode cX10_fault 5 = .ok (.getfield 38, 3) := by decide +kernel
theorem dX10_fault_8 : decode cX10_fault 8 = .ok (.invokevirtual 160, 3) := by decide +kernel
theorem dX10_fault_11 : decode cX10_fault 11 = .ok (.ireturn, 1) := by decide +kernel
def fX10_fault (s0 : Mem) : Option Res :=
 bnd (fX8_readInto 11 s0) (fun r1 s2 =>
 some (r1, s2))
set_option maxRecDepth 100000 in
set_option maxHeartbeats 4000000 in
theorem mX10_fault (l : Launch) (D : va_G) (ad : Nat → Nat) (cA : Nat → ClassId) (s0 : Mem) : MCi l D ad cA yX10_fault cX10_fault 1 (some .int) rmX10_fault [.inr (.inr 0)] s0 (fX10_fault s0) := by
  refine MCi_ofE (own := RX10) (ls := [some (.inr (.inr 0))]) 0 (by decide +kernel) rfl rfl (fun _ => Nat.le_of_ble_eq_true rfl) (fun K hq => ?_)
  unfold fX10_fault
  refine j_aload_n dX10_fault_0 rfl rfl ?_
  refine j_getR fl_RX10_31 sh_0 rfl dX10_fault_1 ?_
  refine j_aload_n dX10_fault_4 rfl rfl ?_
  refine j_getR fl_RX10_38 sh_0 rfl dX10_fault_5 ?_
  refine j_callVi (mX8_readInto (kl K) (kD K) (kad K) (kcA K) 11 isSc_11 s0) cw_RX10_160 sh_8 rfl ⟨rfl, rfl, by decide, by decide⟩ rfl rfl (Nat.le_of_ble_eq_true rfl) dX10_fault_8 (fun r1 s2 => ?_)
  exact j_iret hq dX10_fault_11
abbrev rmX10_load : Room := { frames := 5, cells := 0, slots := 0, locals := 123 }
theorem dX10_load_0 : decode cX10_load 0 = .ok (.aload_n 0, 1) := by decide +kernel
theorem dX10_load_1 : decode cX10_load 1 = .ok (.getfield 31, 3) := by decide +kernel
theorem dX10_load_4 : decode cX10_load 4 = .ok (.aload_n 0, 1) := by decide +kernel
theorem dX10_load_5 : decode cX10_load 5 = .ok (.getfield 38, 3) := by decide +kernel
theorem dX10_load_8 : decode cX10_load 8 = .ok (.invokevirtual 160, 3) := by decide +kernel
theorem dX10_load_11 : decode cX10_load 11 = .ok (.bipush (-4), 2) := by decide +kernel
theorem dX10_load_13 : decode cX10_load 13 = .ok (.if_icmp .ne 13, 3) := by decide +kernel
theorem dX10_load_16 : decode cX10_load 16 = .ok (.aload_n 0, 1) := by decide +kernel
theorem dX10_load_17 : decode cX10_load 17 = .ok (.getfield 38, 3) := by decide +kernel
theorem dX10_load_20 : decode cX10_load 20 = .ok (.getfield 164, 3) := by decide +kernel
theorem dX10_load_23 : decode cX10_load 23 = .ok (.ifCond .ne 6, 3) := by decide +kernel
theorem dX10_load_26 : decode cX10_load 26 = .ok (.bipush (-2), 2) := by decide +kernel
theorem dX10_load_28 : decode cX10_load 28 = .ok (.ireturn, 1) := by decide +kernel
theorem dX10_load_29 : decode cX10_load 29 = .ok (.aload_n 0, 1) := by decide +kernel
theorem dX10_load_30 : decode cX10_load 30 = .ok (.getfield 45, 3) := by decide +kernel
theorem dX10_load_33 : decode cX10_load 33 = .ok (.aload_n 0, 1) := by decide +kernel
theorem dX10_load_34 : decode cX10_load 34 = .ok (.getfield 38, 3) := by decide +kernel
theorem dX10_load_37 : decode cX10_load 37 = .ok (.invokevirtual 167, 3) := by decide +kernel
theorem dX10_load_40 : decode cX10_load 40 = .ok (.aload_n 0, 1) := by decide +kernel
theorem dX10_load_41 : decode cX10_load 41 = .ok (.getfield 45, 3) := by decide +kernel
theorem dX10_load_44 : decode cX10_load 44 = .ok (.getfield 171, 3) := by decide +kernel
theorem dX10_load_47 : decode cX10_load 47 = .ok (.invokevirtual 174, 3) := by decide +kernel
theorem dX10_load_50 : decode cX10_load 50 = .ok (.ireturn, 1) := by decide +kernel
def fX10_load (s0 : Mem) : Option Res :=
 bnd (fX8_readInto 11 s0) (fun r1 s2 =>
 (if r1 ≠ (-4) then
 some ((-2), s2)
 else
 (if s2 11 0 ≠ 0 then
 bnd (fX2_begin 20 11 s2) (fun _ s4 =>
 bnd (fX6_frames 21 s4) (fun r5 s6 =>
 some (r5, s6)))
 else
 some ((-2), s2))))
set_option maxRecDepth 100000 in
set_option maxHeartbeats 4000000 in
theorem mX10_load (l : Launch) (D : va_G) (ad : Nat → Nat) (cA : Nat → ClassId) (s0 : Mem) : MCi l D ad cA yX10_load cX10_load 1 (some .int) rmX10_load [.inr (.inr 0)] s0 (fX10_load s0) := by
  refine MCi_ofE (own := RX10) (ls := [some (.inr (.inr 0))]) 0 (by decide +kernel) rfl rfl (fun _ => Nat.le_of_ble_eq_true rfl) (fun K hq => ?_)
  unfold fX10_load
  refine j_aload_n dX10_load_0 rfl rfl ?_
  refine j_getR fl_RX10_31 sh_0 rfl dX10_load_1 ?_
  refine j_aload_n dX10_load_4 rfl rfl ?_
  refine j_getR fl_RX10_38 sh_0 rfl dX10_load_5 ?_
  refine j_callVi (mX8_readInto (kl K) (kD K) (kad K) (kcA K) 11 isSc_11 s0) cw_RX10_160 sh_8 rfl ⟨rfl, rfl, by decide, by decide⟩ rfl rfl (Nat.le_of_ble_eq_true rfl) dX10_load_8 (fun r1 s2 => ?_)
  refine j_bipush (v := (-4)) dX10_load_11 (by decide +kernel) (inr_d rfl) ?_
  refine j_icmp_ne (tgt := 26) dX10_load_13 rfl ?_ ?_
  · refine j_bipush (v := (-2)) dX10_load_26 (by decide +kernel) (inr_d rfl) ?_
    exact j_iret hq dX10_load_28
  · refine j_aload_n dX10_load_16 rfl rfl ?_
    refine j_getR fl_RX10_38 sh_0 rfl dX10_load_17 ?_
    refine j_getI fl_RX10_164 sh_11 rfl dX10_load_20 ?_
    refine j_if_ne (tgt := 29) dX10_load_23 rfl ?_ ?_
    · refine j_aload_n dX10_load_29 rfl rfl ?_
      refine j_getR fl_RX10_45 sh_0 rfl dX10_load_30 ?_
      refine j_aload_n dX10_load_33 rfl rfl ?_
      refine j_getR fl_RX10_38 sh_0 rfl dX10_load_34 ?_
      refine j_callVv (mX2_begin (kl K) (kD K) (kad K) (kcA K) 20 isJo_20 11 isSc_11 s2) cw_RX10_167 sh_20 rfl ⟨rfl, rfl, by decide, by decide⟩ rfl rfl (Nat.le_of_ble_eq_true rfl) dX10_load_37 (fun _ s4 => ?_)
      refine j_aload_n dX10_load_40 rfl rfl ?_
      refine j_getR fl_RX10_45 sh_0 rfl dX10_load_41 ?_
      refine j_getR fl_RX10_171 sh_20 rfl dX10_load_44 ?_
      refine j_callVi (mX6_frames (kl K) (kD K) (kad K) (kcA K) 21 isSc_21 s4) cw_RX10_174 sh_21 rfl ⟨rfl, rfl, by decide, by decide⟩ rfl rfl (Nat.le_of_ble_eq_true rfl) dX10_load_47 (fun r5 s6 => ?_)
      exact j_iret hq dX10_load_50
    · refine j_bipush (v := (-2)) dX10_load_26 (by decide +kernel) (inr_d rfl) ?_
      exact j_iret hq dX10_load_28
abbrev rmX10_light : Room := { frames := 4, cells := 0, slots := 0, locals := 93 }
theorem dX10_light_0 : decode cX10_light 0 = .ok (.iload_n 1, 1) := by decide +kernel
theorem dX10_light_1 : decode cX10_light 1 = .ok (.ifCond .lt 10, 3) := by decide +kernel
theorem dX10_light_4 : decode cX10_light 4 = .ok (.iload_n 2, 1) := by decide +kernel
theorem dX10_light_5 : decode cX10_light 5 = .ok (.invokestatic 94, 3) := by decide +kernel
theorem dX10_light_8 : decode cX10_light 8 = .ok (.ifCond .ne 5, 3) := by decide +kernel
theorem dX10_light_11 : decode cX10_light 11 = .ok (.iconst (-1), 1) := by decide +kernel
theorem dX10_light_12 : decode cX10_light 12 = .ok (.ireturn, 1) := by decide +kernel
theorem dX10_light_13 : decode cX10_light 13 = .ok (.aload_n 0, 1) := by decide +kernel
theorem dX10_light_14 : decode cX10_light 14 = .ok (.getfield 45, 3) := by decide +kernel
theorem dX10_light_17 : decode cX10_light 17 = .ok (.getfield 171, 3) := by decide +kernel
theorem dX10_light_20 : decode cX10_light 20 = .ok (.iload_n 1, 1) := by decide +kernel
theorem dX10_light_21 : decode cX10_light 21 = .ok (.invokevirtual 178, 3) := by decide +kernel
theorem dX10_light_24 : decode cX10_light 24 = .ok (.ifCond .eq 18, 3) := by decide +kernel
theorem dX10_light_27 : decode cX10_light 27 = .ok (.aload_n 0, 1) := by decide +kernel
theorem dX10_light_28 : decode cX10_light 28 = .ok (.getfield 45, 3) := by decide +kernel
theorem dX10_light_31 : decode cX10_light 31 = .ok (.getfield 171, 3) := by decide +kernel
theorem dX10_light_34 : decode cX10_light 34 = .ok (.iload_n 1, 1) := by decide +kernel
theorem dX10_light_35 : decode cX10_light 35 = .ok (.iload_n 2, 1) := by decide +kernel
theorem dX10_light_36 : decode cX10_light 36 = .ok (.invokevirtual 181, 3) := by decide +kernel
theorem dX10_light_39 : decode cX10_light 39 = .ok (.goto 5, 3) := by decide +kernel
theorem dX10_light_42 : decode cX10_light 42 = .ok (.bipush (-2), 2) := by decide +kernel
theorem dX10_light_44 : decode cX10_light 44 = .ok (.ireturn, 1) := by decide +kernel
def fX10_light (a1 : Int) (a2 : Int) (s0 : Mem) : Option Res :=
 (if a1 < 0 then
 some ((-1), s0)
 else
 bnd (fX10_isColour a2 s0) (fun r1 s2 =>
 (if r1 ≠ 0 then
 bnd (fX6_hasFrame 21 a1 s2) (fun r3 s4 =>
 (if r3 = 0 then
 some ((-2), s4)
 else
 bnd (fX6_lightAt 21 a1 a2 s4) (fun r5 s6 =>
 some (r5, s6))))
 else
 some ((-1), s2))))
set_option maxRecDepth 100000 in
set_option maxHeartbeats 4000000 in
theorem mX10_light (l : Launch) (D : va_G) (ad : Nat → Nat) (cA : Nat → ClassId) (a1 : Int) (a2 : Int) (s0 : Mem) : MCi l D ad cA yX10_light cX10_light 3 (some .int) rmX10_light [.inr (.inr 0), .inl a1, .inl a2] s0 (fX10_light a1 a2 s0) := by
  refine MCi_ofE (own := RX10) (ls := [some (.inr (.inr 0)), some (.inl a1), some (.inl a2)]) 0 (by decide +kernel) rfl rfl (fun _ => Nat.le_of_ble_eq_true rfl) (fun K hq => ?_)
  unfold fX10_light
  refine j_iload_n dX10_light_0 rfl rfl ?_
  refine j_if_lt (tgt := 11) dX10_light_1 rfl ?_ ?_
  · refine j_iconst dX10_light_11 (inr_d rfl) ?_
    exact j_iret hq dX10_light_12
  · refine j_iload_n dX10_light_4 rfl rfl ?_
    refine j_callSi (mX10_isColour (kl K) (kD K) (kad K) (kcA K) a2 s0) cw_RX10_94 ⟨rfl, rfl, by decide, by decide⟩ rfl rfl (Nat.le_of_ble_eq_true rfl) dX10_light_5 (fun r1 s2 => ?_)
    refine j_if_ne (tgt := 13) dX10_light_8 rfl ?_ ?_
    · refine j_aload_n dX10_light_13 rfl rfl ?_
      refine j_getR fl_RX10_45 sh_0 rfl dX10_light_14 ?_
      refine j_getR fl_RX10_171 sh_20 rfl dX10_light_17 ?_
      refine j_iload_n dX10_light_20 rfl rfl ?_
      refine j_callVi (mX6_hasFrame (kl K) (kD K) (kad K) (kcA K) 21 isSc_21 a1 s2) cw_RX10_178 sh_21 rfl ⟨rfl, rfl, by decide, by decide⟩ rfl rfl (Nat.le_of_ble_eq_true rfl) dX10_light_21 (fun r3 s4 => ?_)
      refine j_if_eq (tgt := 42) dX10_light_24 rfl ?_ ?_
      · refine j_bipush (v := (-2)) dX10_light_42 (by decide +kernel) (inr_d rfl) ?_
        exact j_iret hq dX10_light_44
      · refine j_aload_n dX10_light_27 rfl rfl ?_
        refine j_getR fl_RX10_45 sh_0 rfl dX10_light_28 ?_
        refine j_getR fl_RX10_171 sh_20 rfl dX10_light_31 ?_
        refine j_iload_n dX10_light_34 rfl rfl ?_
        refine j_iload_n dX10_light_35 rfl rfl ?_
        refine j_callVi (mX6_lightAt (kl K) (kD K) (kad K) (kcA K) 21 isSc_21 a1 a2 s4) cw_RX10_181 sh_21 rfl ⟨rfl, rfl, by decide, by decide⟩ rfl rfl (Nat.le_of_ble_eq_true rfl) dX10_light_36 (fun r5 s6 => ?_)
        refine j_goto (tgt := 44) dX10_light_39 rfl ?_
        exact j_iret hq dX10_light_44
    · refine j_iconst dX10_light_11 (inr_d rfl) ?_
      exact j_iret hq dX10_light_12
abbrev rmX10_shotOf : Room := { frames := 2, cells := 0, slots := 0, locals := 41 }
theorem dX10_shotOf_0 : decode cX10_shotOf 0 = .ok (.iload_n 1, 1) := by decide +kernel
theorem dX10_shotOf_1 : decode cX10_shotOf 1 = .ok (.ifCond .ge 5, 3) := by decide +kernel
theorem dX10_shotOf_4 : decode cX10_shotOf 4 = .ok (.iconst (-1), 1) := by decide +kernel
theorem dX10_shotOf_5 : decode cX10_shotOf 5 = .ok (.ireturn, 1) := by decide +kernel
theorem dX10_shotOf_6 : decode cX10_shotOf 6 = .ok (.aload_n 0, 1) := by decide +kernel
theorem dX10_shotOf_7 : decode cX10_shotOf 7 = .ok (.getfield 45, 3) := by decide +kernel
theorem dX10_shotOf_10 : decode cX10_shotOf 10 = .ok (.getfield 171, 3) := by decide +kernel
theorem dX10_shotOf_13 : decode cX10_shotOf 13 = .ok (.iload_n 1, 1) := by decide +kernel
theorem dX10_shotOf_14 : decode cX10_shotOf 14 = .ok (.invokevirtual 178, 3) := by decide +kernel
theorem dX10_shotOf_17 : decode cX10_shotOf 17 = .ok (.ifCond .eq 17, 3) := by decide +kernel
theorem dX10_shotOf_20 : decode cX10_shotOf 20 = .ok (.aload_n 0, 1) := by decide +kernel
theorem dX10_shotOf_21 : decode cX10_shotOf 21 = .ok (.getfield 45, 3) := by decide +kernel
theorem dX10_shotOf_24 : decode cX10_shotOf 24 = .ok (.getfield 171, 3) := by decide +kernel
theorem dX10_shotOf_27 : decode cX10_shotOf 27 = .ok (.iload_n 1, 1) := by decide +kernel
theorem dX10_shotOf_28 : decode cX10_shotOf 28 = .ok (.invokevirtual 185, 3) := by decide +kernel
theorem dX10_shotOf_31 : decode cX10_shotOf 31 = .ok (.goto 5, 3) := by decide +kernel
theorem dX10_shotOf_34 : decode cX10_shotOf 34 = .ok (.bipush (-2), 2) := by decide +kernel
theorem dX10_shotOf_36 : decode cX10_shotOf 36 = .ok (.ireturn, 1) := by decide +kernel
def fX10_shotOf (a1 : Int) (s0 : Mem) : Option Res :=
 (if 0 ≤ a1 then
 bnd (fX6_hasFrame 21 a1 s0) (fun r1 s2 =>
 (if r1 = 0 then
 some ((-2), s2)
 else
 bnd (fX6_shotAt 21 a1 s2) (fun r3 s4 =>
 some (r3, s4))))
 else
 some ((-1), s0))
set_option maxRecDepth 100000 in
set_option maxHeartbeats 4000000 in
theorem mX10_shotOf (l : Launch) (D : va_G) (ad : Nat → Nat) (cA : Nat → ClassId) (a1 : Int) (s0 : Mem) : MCi l D ad cA yX10_shotOf cX10_shotOf 2 (some .int) rmX10_shotOf [.inr (.inr 0), .inl a1] s0 (fX10_shotOf a1 s0) := by
  refine MCi_ofE (own := RX10) (ls := [some (.inr (.inr 0)), some (.inl a1)]) 0 (by decide +kernel) rfl rfl (fun _ => Nat.le_of_ble_eq_true rfl) (fun K hq => ?_)
  unfold fX10_shotOf
  refine j_iload_n dX10_shotOf_0 rfl rfl ?_
  refine j_if_ge (tgt := 6) dX10_shotOf_1 rfl ?_ ?_
  · refine j_aload_n dX10_shotOf_6 rfl rfl ?_
    refine j_getR fl_RX10_45 sh_0 rfl dX10_shotOf_7 ?_
    refine j_getR fl_RX10_171 sh_20 rfl dX10_shotOf_10 ?_
    refine j_iload_n dX10_shotOf_13 rfl rfl ?_
    refine j_callVi (mX6_hasFrame (kl K) (kD K) (kad K) (kcA K) 21 isSc_21 a1 s0) cw_RX10_178 sh_21 rfl ⟨rfl, rfl, by decide, by decide⟩ rfl rfl (Nat.le_of_ble_eq_true rfl) dX10_shotOf_14 (fun r1 s2 => ?_)
    refine j_if_eq (tgt := 34) dX10_shotOf_17 rfl ?_ ?_
    · refine j_bipush (v := (-2)) dX10_shotOf_34 (by decide +kernel) (inr_d rfl) ?_
      exact j_iret hq dX10_shotOf_36
    · refine j_aload_n dX10_shotOf_20 rfl rfl ?_
      refine j_getR fl_RX10_45 sh_0 rfl dX10_shotOf_21 ?_
      refine j_getR fl_RX10_171 sh_20 rfl dX10_shotOf_24 ?_
      refine j_iload_n dX10_shotOf_27 rfl rfl ?_
      refine j_callVi (mX6_shotAt (kl K) (kD K) (kad K) (kcA K) 21 isSc_21 a1 s2) cw_RX10_185 sh_21 rfl ⟨rfl, rfl, by decide, by decide⟩ rfl rfl (Nat.le_of_ble_eq_true rfl) dX10_shotOf_28 (fun r3 s4 => ?_)
      refine j_goto (tgt := 36) dX10_shotOf_31 rfl ?_
      exact j_iret hq dX10_shotOf_36
  · refine j_iconst dX10_shotOf_4 (inr_d rfl) ?_
    exact j_iret hq dX10_shotOf_5
abbrev rmX10_soon : Room := { frames := 6, cells := 0, slots := 0, locals := 141 }
theorem dX10_soon_0 : decode cX10_soon 0 = .ok (.iload_n 1, 1) := by decide +kernel
theorem dX10_soon_1 : decode cX10_soon 1 = .ok (.iconst (-1), 1) := by decide +kernel
theorem dX10_soon_2 : decode cX10_soon 2 = .ok (.if_icmp .ge 5, 3) := by decide +kernel
theorem dX10_soon_5 : decode cX10_soon 5 = .ok (.iconst (-1), 1) := by decide +kernel
theorem dX10_soon_6 : decode cX10_soon 6 = .ok (.ireturn, 1) := by decide +kernel
theorem dX10_soon_7 : decode cX10_soon 7 = .ok (.aload_n 0, 1) := by decide +kernel
theorem dX10_soon_8 : decode cX10_soon 8 = .ok (.getfield 45, 3) := by decide +kernel
theorem dX10_soon_11 : decode cX10_soon 11 = .ok (.getfield 171, 3) := by decide +kernel
theorem dX10_soon_14 : decode cX10_soon 14 = .ok (.getfield 164, 3) := by decide +kernel
theorem dX10_soon_17 : decode cX10_soon 17 = .ok (.ifCond .ne 6, 3) := by decide +kernel
theorem dX10_soon_20 : decode cX10_soon 20 = .ok (.bipush (-2), 2) := by decide +kernel
theorem dX10_soon_22 : decode cX10_soon 22 = .ok (.ireturn, 1) := by decide +kernel
theorem dX10_soon_23 : decode cX10_soon 23 = .ok (.aload_n 0, 1) := by decide +kernel
theorem dX10_soon_24 : decode cX10_soon 24 = .ok (.getfield 58, 3) := by decide +kernel
theorem dX10_soon_27 : decode cX10_soon 27 = .ok (.aload_n 0, 1) := by decide +kernel
theorem dX10_soon_28 : decode cX10_soon 28 = .ok (.getfield 45, 3) := by decide +kernel
theorem dX10_soon_31 : decode cX10_soon 31 = .ok (.getfield 171, 3) := by decide +kernel
theorem dX10_soon_34 : decode cX10_soon 34 = .ok (.aload_n 0, 1) := by decide +kernel
theorem dX10_soon_35 : decode cX10_soon 35 = .ok (.getfield 25, 3) := by decide +kernel
theorem dX10_soon_38 : decode cX10_soon 38 = .ok (.iconst 0, 1) := by decide +kernel
theorem dX10_soon_39 : decode cX10_soon 39 = .ok (.iaload, 1) := by decide +kernel
theorem dX10_soon_40 : decode cX10_soon 40 = .ok (.invokevirtual 188, 3) := by decide +kernel
theorem dX10_soon_43 : decode cX10_soon 43 = .ok (.iload_n 1, 1) := by decide +kernel
theorem dX10_soon_44 : decode cX10_soon 44 = .ok (.iconst (-1), 1) := by decide +kernel
theorem dX10_soon_45 : decode cX10_soon 45 = .ok (.if_icmp .ne 11, 3) := by decide +kernel
theorem dX10_soon_48 : decode cX10_soon 48 = .ok (.aload_n 0, 1) := by decide +kernel
theorem dX10_soon_49 : decode cX10_soon 49 = .ok (.getfield 58, 3) := by decide +kernel
theorem dX10_soon_52 : decode cX10_soon 52 = .ok (.getfield 192, 3) := by decide +kernel
theorem dX10_soon_55 : decode cX10_soon 55 = .ok (.ireturn, 1) := by decide +kernel
theorem dX10_soon_56 : decode cX10_soon 56 = .ok (.iload_n 1, 1) := by decide +kernel
theorem dX10_soon_57 : decode cX10_soon 57 = .ok (.aload_n 0, 1) := by decide +kernel
theorem dX10_soon_58 : decode cX10_soon 58 = .ok (.getfield 58, 3) := by decide +kernel
theorem dX10_soon_61 : decode cX10_soon 61 = .ok (.getfield 192, 3) := by decide +kernel
theorem dX10_soon_64 : decode cX10_soon 64 = .ok (.if_icmp .ge 15, 3) := by decide +kernel
theorem dX10_soon_67 : decode cX10_soon 67 = .ok (.aload_n 0, 1) := by decide +kernel
theorem dX10_soon_68 : decode cX10_soon 68 = .ok (.getfield 58, 3) := by decide +kernel
theorem dX10_soon_71 : decode cX10_soon 71 = .ok (.getfield 195, 3) := by decide +kernel
theorem dX10_soon_74 : decode cX10_soon 74 = .ok (.iload_n 1, 1) := by decide +kernel
theorem dX10_soon_75 : decode cX10_soon 75 = .ok (.iaload, 1) := by decide +kernel
theorem dX10_soon_76 : decode cX10_soon 76 = .ok (.goto 5, 3) := by decide +kernel
theorem dX10_soon_79 : decode cX10_soon 79 = .ok (.bipush (-4), 2) := by decide +kernel
theorem dX10_soon_81 : decode cX10_soon 81 = .ok (.ireturn, 1) := by decide +kernel
def fX10_soon (a1 : Int) (s0 : Mem) : Option Res :=
 (if (-1) ≤ a1 then
 (if s0 21 0 ≠ 0 then
 rd (s0 7) 0 4 (fun v1 =>
 bnd (fX0_walk 21 v1 s0) (fun _ s3 =>
 (if a1 ≠ (-1) then
 (if s3 77 1 ≤ a1 then
 some ((-4), s3)
 else
 rd (s3 78) a1 16 (fun v4 =>
 some (v4, s3)))
 else
 some (s3 77 1, s3))))
 else
 some ((-2), s0))
 else
 some ((-1), s0))
set_option maxRecDepth 100000 in
set_option maxHeartbeats 4000000 in
theorem mX10_soon (l : Launch) (D : va_G) (ad : Nat → Nat) (cA : Nat → ClassId) (a1 : Int) (s0 : Mem) : MCi l D ad cA yX10_soon cX10_soon 2 (some .int) rmX10_soon [.inr (.inr 0), .inl a1] s0 (fX10_soon a1 s0) := by
  refine MCi_ofE (own := RX10) (ls := [some (.inr (.inr 0)), some (.inl a1)]) 0 (by decide +kernel) rfl rfl (fun _ => Nat.le_of_ble_eq_true rfl) (fun K hq => ?_)
  unfold fX10_soon
  refine j_iload_n dX10_soon_0 rfl rfl ?_
  refine j_iconst dX10_soon_1 (inr_d rfl) ?_
  refine j_icmp_ge (tgt := 7) dX10_soon_2 rfl ?_ ?_
  · refine j_aload_n dX10_soon_7 rfl rfl ?_
    refine j_getR fl_RX10_45 sh_0 rfl dX10_soon_8 ?_
    refine j_getR fl_RX10_171 sh_20 rfl dX10_soon_11 ?_
    refine j_getI fl_RX10_164 sh_21 rfl dX10_soon_14 ?_
    refine j_if_ne (tgt := 23) dX10_soon_17 rfl ?_ ?_
    · refine j_aload_n dX10_soon_23 rfl rfl ?_
      refine j_getR fl_RX10_58 sh_0 rfl dX10_soon_24 ?_
      refine j_aload_n dX10_soon_27 rfl rfl ?_
      refine j_getR fl_RX10_45 sh_0 rfl dX10_soon_28 ?_
      refine j_getR fl_RX10_171 sh_20 rfl dX10_soon_31 ?_
      refine j_aload_n dX10_soon_34 rfl rfl ?_
      refine j_getR fl_RX10_25 sh_0 rfl dX10_soon_35 ?_
      refine j_iconst dX10_soon_38 (inr_d rfl) ?_
      refine j_iald sh_7 dX10_soon_39 (fun v1 => ?_)
      refine j_callVv (mX0_walk (kl K) (kD K) (kad K) (kcA K) 21 isSc_21 v1 s0) cw_RX10_188 sh_77 rfl ⟨rfl, rfl, by decide, by decide⟩ rfl rfl (Nat.le_of_ble_eq_true rfl) dX10_soon_40 (fun _ s3 => ?_)
      refine j_iload_n dX10_soon_43 rfl rfl ?_
      refine j_iconst dX10_soon_44 (inr_d rfl) ?_
      refine j_icmp_ne (tgt := 56) dX10_soon_45 rfl ?_ ?_
      · refine j_iload_n dX10_soon_56 rfl rfl ?_
        refine j_aload_n dX10_soon_57 rfl rfl ?_
        refine j_getR fl_RX10_58 sh_0 rfl dX10_soon_58 ?_
        refine j_getI fl_RX10_192 sh_77 rfl dX10_soon_61 ?_
        refine j_icmp_ge (tgt := 79) dX10_soon_64 rfl ?_ ?_
        · refine j_bipush (v := (-4)) dX10_soon_79 (by decide +kernel) (inr_d rfl) ?_
          exact j_iret hq dX10_soon_81
        · refine j_aload_n dX10_soon_67 rfl rfl ?_
          refine j_getR fl_RX10_58 sh_0 rfl dX10_soon_68 ?_
          refine j_getR fl_RX10_195 sh_77 rfl dX10_soon_71 ?_
          refine j_iload_n dX10_soon_74 rfl rfl ?_
          refine j_iald sh_78 dX10_soon_75 (fun v4 => ?_)
          refine j_goto (tgt := 81) dX10_soon_76 rfl ?_
          exact j_iret hq dX10_soon_81
      · refine j_aload_n dX10_soon_48 rfl rfl ?_
        refine j_getR fl_RX10_58 sh_0 rfl dX10_soon_49 ?_
        refine j_getI fl_RX10_192 sh_77 rfl dX10_soon_52 ?_
        exact j_iret hq dX10_soon_55
    · refine j_bipush (v := (-2)) dX10_soon_20 (by decide +kernel) (inr_d rfl) ?_
      exact j_iret hq dX10_soon_22
  · refine j_iconst dX10_soon_5 (inr_d rfl) ?_
    exact j_iret hq dX10_soon_6
abbrev rmX10_feetOf : Room := { frames := 0, cells := 0, slots := 0, locals := 0 }
theorem dX10_feetOf_0 : decode cX10_feetOf 0 = .ok (.iload_n 0, 1) := by decide +kernel
theorem dX10_feetOf_1 : decode cX10_feetOf 1 = .ok (.bipush 16, 2) := by decide +kernel
theorem dX10_feetOf_3 : decode cX10_feetOf 3 = .ok (.iadd, 1) := by decide +kernel
theorem dX10_feetOf_4 : decode cX10_feetOf 4 = .ok (.iconst 1, 1) := by decide +kernel
theorem dX10_feetOf_5 : decode cX10_feetOf 5 = .ok (.isub, 1) := by decide +kernel
theorem dX10_feetOf_6 : decode cX10_feetOf 6 = .ok (.bipush 16, 2) := by decide +kernel
theorem dX10_feetOf_8 : decode cX10_feetOf 8 = .ok (.idiv, 1) := by decide +kernel
theorem dX10_feetOf_9 : decode cX10_feetOf 9 = .ok (.ireturn, 1) := by decide +kernel
def fX10_feetOf (a0 : Int) (s0 : Mem) : Option Res :=
 some (Int.tdiv (wr ((wr (a0 + 16)) - 1)) 16, s0)
set_option maxRecDepth 100000 in
set_option maxHeartbeats 4000000 in
theorem mX10_feetOf (l : Launch) (D : va_G) (ad : Nat → Nat) (cA : Nat → ClassId) (a0 : Int) (s0 : Mem) : MCi l D ad cA yX10_feetOf cX10_feetOf 1 (some .int) rmX10_feetOf [.inl a0] s0 (fX10_feetOf a0 s0) := by
  refine MCi_ofE (own := RX10) (ls := [some (.inl a0)]) 0 (by decide +kernel) rfl rfl (fun _ => Nat.le_of_ble_eq_true rfl) (fun K hq => ?_)
  unfold fX10_feetOf
  refine j_iload_n dX10_feetOf_0 rfl rfl ?_
  refine j_bipush (v := 16) dX10_feetOf_1 (by decide +kernel) (inr_d rfl) ?_
  refine j_iadd dX10_feetOf_3 ?_
  refine j_iconst dX10_feetOf_4 (inr_d rfl) ?_
  refine j_isub dX10_feetOf_5 ?_
  refine j_bipush (v := 16) dX10_feetOf_6 (by decide +kernel) (inr_d rfl) ?_
  refine j_idiv_p dX10_feetOf_8 (by decide) ?_
  exact j_iret hq dX10_feetOf_9
