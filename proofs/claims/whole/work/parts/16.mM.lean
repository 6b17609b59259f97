abbrev rmX11_fadeItem : Room := { frames := 2, cells := 0, slots := 0, locals := 46 }
theorem dX11_fadeItem_0 : decode cX11_fadeItem 0 = .ok (.aload_n 0, 1) := by decide +kernel
theorem dX11_fadeItem_1 : decode cX11_fadeItem 1 = .ok (.getfield 35, 3) := by decide +kernel
theorem dX11_fadeItem_4 : decode cX11_fadeItem 4 = .ok (.iconst 0, 1) := by decide +kernel
theorem dX11_fadeItem_5 : decode cX11_fadeItem 5 = .ok (.iaload, 1) := by decide +kernel
theorem dX11_fadeItem_6 : decode cX11_fadeItem 6 = .ok (.iconst 1, 1) := by decide +kernel
theorem dX11_fadeItem_7 : decode cX11_fadeItem 7 = .ok (.isub, 1) := by decide +kernel
theorem dX11_fadeItem_8 : decode cX11_fadeItem 8 = .ok (.istore_n 1, 1) := by decide +kernel
theorem dX11_fadeItem_9 : decode cX11_fadeItem 9 = .ok (.aload_n 0, 1) := by decide +kernel
theorem dX11_fadeItem_10 : decode cX11_fadeItem 10 = .ok (.iconst 4, 1) := by decide +kernel
theorem dX11_fadeItem_11 : decode cX11_fadeItem 11 = .ok (.invokevirtual 164, 3) := by decide +kernel
theorem dX11_fadeItem_14 : decode cX11_fadeItem 14 = .ok (.ifCond .eq 43, 3) := by decide +kernel
theorem dX11_fadeItem_17 : decode cX11_fadeItem 17 = .ok (.iload_n 1, 1) := by decide +kernel
theorem dX11_fadeItem_18 : decode cX11_fadeItem 18 = .ok (.ifCond .lt 39, 3) := by decide +kernel
theorem dX11_fadeItem_21 : decode cX11_fadeItem 21 = .ok (.aload_n 0, 1) := by decide +kernel
theorem dX11_fadeItem_22 : decode cX11_fadeItem 22 = .ok (.getfield 47, 3) := by decide +kernel
theorem dX11_fadeItem_25 : decode cX11_fadeItem 25 = .ok (.iload_n 1, 1) := by decide +kernel
theorem dX11_fadeItem_26 : decode cX11_fadeItem 26 = .ok (.iaload, 1) := by decide +kernel
theorem dX11_fadeItem_27 : decode cX11_fadeItem 27 = .ok (.ifCond .gt 30, 3) := by decide +kernel
theorem dX11_fadeItem_30 : decode cX11_fadeItem 30 = .ok (.aload_n 0, 1) := by decide +kernel
theorem dX11_fadeItem_31 : decode cX11_fadeItem 31 = .ok (.getfield 95, 3) := by decide +kernel
theorem dX11_fadeItem_34 : decode cX11_fadeItem 34 = .ok (.iconst 0, 1) := by decide +kernel
theorem dX11_fadeItem_35 : decode cX11_fadeItem 35 = .ok (.iaload, 1) := by decide +kernel
theorem dX11_fadeItem_36 : decode cX11_fadeItem 36 = .ok (.iconst 1, 1) := by decide +kernel
theorem dX11_fadeItem_37 : decode cX11_fadeItem 37 = .ok (.aload_n 0, 1) := by decide +kernel
theorem dX11_fadeItem_38 : decode cX11_fadeItem 38 = .ok (.getfield 41, 3) := by decide +kernel
theorem dX11_fadeItem_41 : decode cX11_fadeItem 41 = .ok (.iload_n 1, 1) := by decide +kernel
theorem dX11_fadeItem_42 : decode cX11_fadeItem 42 = .ok (.iaload, 1) := by decide +kernel
theorem dX11_fadeItem_43 : decode cX11_fadeItem 43 = .ok (.invokestatic 125, 3) := by decide +kernel
theorem dX11_fadeItem_46 : decode cX11_fadeItem 46 = .ok (.ifCond .eq 11, 3) := by decide +kernel
theorem dX11_fadeItem_49 : decode cX11_fadeItem 49 = .ok (.aload_n 0, 1) := by decide +kernel
theorem dX11_fadeItem_50 : decode cX11_fadeItem 50 = .ok (.iconst 1, 1) := by decide +kernel
theorem dX11_fadeItem_51 : decode cX11_fadeItem 51 = .ok (.invokevirtual 168, 3) := by decide +kernel
theorem dX11_fadeItem_54 : decode cX11_fadeItem 54 = .ok (.ifCond .ne 5, 3) := by decide +kernel
theorem dX11_fadeItem_57 : decode cX11_fadeItem 57 = .ok (.iconst 0, 1) := by decide +kernel
theorem dX11_fadeItem_58 : decode cX11_fadeItem 58 = .ok (.ireturn, 1) := by decide +kernel
theorem dX11_fadeItem_59 : decode cX11_fadeItem 59 = .ok (.aload_n 0, 1) := by decide +kernel
theorem dX11_fadeItem_60 : decode cX11_fadeItem 60 = .ok (.getfield 47, 3) := by decide +kernel
theorem dX11_fadeItem_63 : decode cX11_fadeItem 63 = .ok (.iload_n 1, 1) := by decide +kernel
theorem dX11_fadeItem_64 : decode cX11_fadeItem 64 = .ok (.aload_n 0, 1) := by decide +kernel
theorem dX11_fadeItem_65 : decode cX11_fadeItem 65 = .ok (.getfield 95, 3) := by decide +kernel
theorem dX11_fadeItem_68 : decode cX11_fadeItem 68 = .ok (.iconst 0, 1) := by decide +kernel
theorem dX11_fadeItem_69 : decode cX11_fadeItem 69 = .ok (.iaload, 1) := by decide +kernel
theorem dX11_fadeItem_70 : decode cX11_fadeItem 70 = .ok (.iastore, 1) := by decide +kernel
theorem dX11_fadeItem_71 : decode cX11_fadeItem 71 = .ok (.iconst 0, 1) := by decide +kernel
theorem dX11_fadeItem_72 : decode cX11_fadeItem 72 = .ok (.istore_n 2, 1) := by decide +kernel
theorem dX11_fadeItem_73 : decode cX11_fadeItem 73 = .ok (.iload_n 2, 1) := by decide +kernel
theorem dX11_fadeItem_74 : decode cX11_fadeItem 74 = .ok (.iconst 3, 1) := by decide +kernel
theorem dX11_fadeItem_75 : decode cX11_fadeItem 75 = .ok (.if_icmp .ge 27, 3) := by decide +kernel
theorem dX11_fadeItem_78 : decode cX11_fadeItem 78 = .ok (.aload_n 0, 1) := by decide +kernel
theorem dX11_fadeItem_79 : decode cX11_fadeItem 79 = .ok (.getfield 50, 3) := by decide +kernel
theorem dX11_fadeItem_82 : decode cX11_fadeItem 82 = .ok (.iconst 3, 1) := by decide +kernel
theorem dX11_fadeItem_83 : decode cX11_fadeItem 83 = .ok (.iload_n 1, 1) := by decide +kernel
theorem dX11_fadeItem_84 : decode cX11_fadeItem 84 = .ok (.imul, 1) := by decide +kernel
theorem dX11_fadeItem_85 : decode cX11_fadeItem 85 = .ok (.iload_n 2, 1) := by decide +kernel
theorem dX11_fadeItem_86 : decode cX11_fadeItem 86 = .ok (.iadd, 1) := by decide +kernel
theorem dX11_fadeItem_87 : decode cX11_fadeItem 87 = .ok (.aload_n 0, 1) := by decide +kernel
theorem dX11_fadeItem_88 : decode cX11_fadeItem 88 = .ok (.getfield 95, 3) := by decide +kernel
theorem dX11_fadeItem_91 : decode cX11_fadeItem 91 = .ok (.iconst 1, 1) := by decide +kernel
theorem dX11_fadeItem_92 : decode cX11_fadeItem 92 = .ok (.iload_n 2, 1) := by decide +kernel
theorem dX11_fadeItem_93 : decode cX11_fadeItem 93 = .ok (.iadd, 1) := by decide +kernel
theorem dX11_fadeItem_94 : decode cX11_fadeItem 94 = .ok (.iaload, 1) := by decide +kernel
theorem dX11_fadeItem_95 : decode cX11_fadeItem 95 = .ok (.iastore, 1) := by decide +kernel
theorem dX11_fadeItem_96 : decode cX11_fadeItem 96 = .ok (.iinc 2 1, 3) := by decide +kernel
theorem dX11_fadeItem_99 : decode cX11_fadeItem 99 = .ok (.goto (-26), 3) := by decide +kernel
theorem dX11_fadeItem_102 : decode cX11_fadeItem 102 = .ok (.iconst 1, 1) := by decide +kernel
theorem dX11_fadeItem_103 : decode cX11_fadeItem 103 = .ok (.ireturn, 1) := by decide +kernel
def LX11_fadeItem_73 (c1 : Int) (k102 : Mem → Option Res) : Nat → Int → Mem → Option Res
  | 0 => fun _ _ => none
  | n + 1 => fun x2 s => (if 3 ≤ x2 then
 k102 s
 else
 rd (s 126) (wr (1 + x2)) 5 (fun v14 =>
 ST s 111 (wr ((wr (3 * c1)) + x2)) 192 v14 (fun s15 =>
 LX11_fadeItem_73 c1 k102 n (wr (x2 + 1)) s15)))
def fX11_fadeItem (s0 : Mem) : Option Res :=
 rd (s0 106) 0 4 (fun v1 =>
 lt (wr (v1 - 1)) (fun v2 =>
 bnd (fX11_numbers 4 s0) (fun r3 s4 =>
 (if r3 = 0 then
 zr 0 s4
 else
 (if v2 < 0 then
 zr 0 s4
 else
 rd (s4 110) v2 64 (fun v5 =>
 (if 0 < v5 then
 zr 0 s4
 else
 rd (s4 126) 0 5 (fun v6 =>
 rd (s4 108) v2 64 (fun v7 =>
 bnd (fX11_in v6 1 v7 s4) (fun r8 s9 =>
 (if r8 = 0 then
 zr 0 s9
 else
 bnd (fX11_areLights 1 s9) (fun r10 s11 =>
 (if r10 ≠ 0 then
 rd (s11 126) 0 5 (fun v12 =>
 ST s11 110 v2 64 v12 (fun s13 =>
 LX11_fadeItem_73 v2 (fun s16 =>
 zr 1 s16) FU 0 s13))
 else
 zr 0 s11)))))))))))))
set_option maxRecDepth 100000 in
set_option maxHeartbeats 4000000 in
theorem jLX11_fadeItem_73 {K : KT} (hq : KI K (some .boolean)) (c1 : Int) (k102 : Mem → Option Res) (hk102 : ∀ (s : Mem), J K rmX11_fadeItem cX11_fadeItem RX11 3 102 [none, none, none] [] s (k102 s)) : ∀ (n : Nat) (x2 : Int) (s : Mem), J K rmX11_fadeItem cX11_fadeItem RX11 3 73 [some (.inr (.inr 100)), some (.inl c1), some (.inl x2)] [] s (LX11_fadeItem_73 c1 k102 n x2 s) := by
  intro n
  induction n with
  | zero => intros; exact J_none
  | succ n ih =>
    intro x2 s
    show J K _ _ _ _ _ _ _ _ (LX11_fadeItem_73 c1 k102 (n + 1) x2 s)
    simp only [LX11_fadeItem_73]
    refine j_iload_n dX11_fadeItem_73 rfl rfl ?_
    refine j_iconst dX11_fadeItem_74 (inr_d rfl) ?_
    refine j_icmp_ge (tgt := 102) dX11_fadeItem_75 rfl ?_ ?_
    · exact j_msk [false, false, false] (hk102 _)
    · refine j_aload_n dX11_fadeItem_78 rfl rfl ?_
      refine j_getR fl_RX11_50 sh_100 rfl dX11_fadeItem_79 ?_
      refine j_iconst dX11_fadeItem_82 (inr_d rfl) ?_
      refine j_iload_n dX11_fadeItem_83 rfl rfl ?_
      refine j_imul dX11_fadeItem_84 ?_
      refine j_iload_n dX11_fadeItem_85 rfl rfl ?_
      refine j_iadd dX11_fadeItem_86 ?_
      refine j_aload_n dX11_fadeItem_87 rfl rfl ?_
      refine j_getR fl_RX11_95 sh_100 rfl dX11_fadeItem_88 ?_
      refine j_iconst dX11_fadeItem_91 (inr_d rfl) ?_
      refine j_iload_n dX11_fadeItem_92 rfl rfl ?_
      refine j_iadd dX11_fadeItem_93 ?_
      refine j_iald sh_126 dX11_fadeItem_94 (fun v14 => ?_)
      refine j_iast sh_111 dX11_fadeItem_95 (fun s15 => ?_)
      refine j_iincE (ls2 := [some (.inr (.inr 100)), some (.inl c1), some (.inl (wr (x2 + 1)))]) dX11_fadeItem_96 rfl (by decide) rfl rfl ?_
      refine j_goto (tgt := 73) dX11_fadeItem_99 rfl ?_
      exact j_msk [true, true, true] (ih _ _)
set_option maxRecDepth 100000 in
set_option maxHeartbeats 4000000 in
theorem mX11_fadeItem (l : Launch) (D : va_G) (ad : Nat → Nat) (cA : Nat → ClassId) (s0 : Mem) : MCi l D ad cA yX11_fadeItem cX11_fadeItem 3 (some .boolean) rmX11_fadeItem [.inr (.inr 100)] s0 (fX11_fadeItem s0) := by
  refine MCi_ofE (own := RX11) (ls := [some (.inr (.inr 100)), none, none]) 2 (by decide +kernel) rfl rfl (fun _ => Nat.le_of_ble_eq_true rfl) (fun K hq => ?_)
  unfold fX11_fadeItem
  refine j_aload_n dX11_fadeItem_0 rfl rfl ?_
  refine j_getR fl_RX11_35 sh_100 rfl dX11_fadeItem_1 ?_
  refine j_iconst dX11_fadeItem_4 (inr_d rfl) ?_
  refine j_iald sh_106 dX11_fadeItem_5 (fun v1 => ?_)
  refine j_iconst dX11_fadeItem_6 (inr_d rfl) ?_
  refine j_isub dX11_fadeItem_7 ?_
  refine j_ltv (fun v2 => ?_)
  refine j_istore_nE (ls2 := [some (.inr (.inr 100)), some (.inl v2), none]) dX11_fadeItem_8 rfl (by decide) rfl rfl ?_
  refine j_aload_n dX11_fadeItem_9 rfl rfl ?_
  refine j_iconst dX11_fadeItem_10 (inr_d rfl) ?_
  refine j_callVi (mX11_numbers (kl K) (kD K) (kad K) (kcA K) 4 s0) cw_RX11_164 sh_100 rfl ⟨rfl, rfl, by decide, by decide⟩ rfl rfl (Nat.le_of_ble_eq_true rfl) dX11_fadeItem_11 (fun r3 s4 => ?_)
  refine j_if_eq (tgt := 57) dX11_fadeItem_14 rfl ?_ ?_
  · refine j_iconst dX11_fadeItem_57 (inr_d rfl) ?_
    exact j_zret hq dX11_fadeItem_58
  · refine j_iload_n dX11_fadeItem_17 rfl rfl ?_
    refine j_if_lt (tgt := 57) dX11_fadeItem_18 rfl ?_ ?_
    · refine j_iconst dX11_fadeItem_57 (inr_d rfl) ?_
      exact j_zret hq dX11_fadeItem_58
    · refine j_aload_n dX11_fadeItem_21 rfl rfl ?_
      refine j_getR fl_RX11_47 sh_100 rfl dX11_fadeItem_22 ?_
      refine j_iload_n dX11_fadeItem_25 rfl rfl ?_
      refine j_iald sh_110 dX11_fadeItem_26 (fun v5 => ?_)
      refine j_if_gt (tgt := 57) dX11_fadeItem_27 rfl ?_ ?_
      · refine j_iconst dX11_fadeItem_57 (inr_d rfl) ?_
        exact j_zret hq dX11_fadeItem_58
      · refine j_aload_n dX11_fadeItem_30 rfl rfl ?_
        refine j_getR fl_RX11_95 sh_100 rfl dX11_fadeItem_31 ?_
        refine j_iconst dX11_fadeItem_34 (inr_d rfl) ?_
        refine j_iald sh_126 dX11_fadeItem_35 (fun v6 => ?_)
        refine j_iconst dX11_fadeItem_36 (inr_d rfl) ?_
        refine j_aload_n dX11_fadeItem_37 rfl rfl ?_
        refine j_getR fl_RX11_41 sh_100 rfl dX11_fadeItem_38 ?_
        refine j_iload_n dX11_fadeItem_41 rfl rfl ?_
        refine j_iald sh_108 dX11_fadeItem_42 (fun v7 => ?_)
        refine j_callSi (mX11_in (kl K) (kD K) (kad K) (kcA K) v6 1 v7 s4) cw_RX11_125 ⟨rfl, rfl, by decide, by decide⟩ rfl rfl (Nat.le_of_ble_eq_true rfl) dX11_fadeItem_43 (fun r8 s9 => ?_)
        refine j_if_eq (tgt := 57) dX11_fadeItem_46 rfl ?_ ?_
        · refine j_iconst dX11_fadeItem_57 (inr_d rfl) ?_
          exact j_zret hq dX11_fadeItem_58
        · refine j_aload_n dX11_fadeItem_49 rfl rfl ?_
          refine j_iconst dX11_fadeItem_50 (inr_d rfl) ?_
          refine j_callVi (mX11_areLights (kl K) (kD K) (kad K) (kcA K) 1 s9) cw_RX11_168 sh_100 rfl ⟨rfl, rfl, by decide, by decide⟩ rfl rfl (Nat.le_of_ble_eq_true rfl) dX11_fadeItem_51 (fun r10 s11 => ?_)
          refine j_if_ne (tgt := 59) dX11_fadeItem_54 rfl ?_ ?_
          · refine j_aload_n dX11_fadeItem_59 rfl rfl ?_
            refine j_getR fl_RX11_47 sh_100 rfl dX11_fadeItem_60 ?_
            refine j_iload_n dX11_fadeItem_63 rfl rfl ?_
            refine j_aload_n dX11_fadeItem_64 rfl rfl ?_
            refine j_getR fl_RX11_95 sh_100 rfl dX11_fadeItem_65 ?_
            refine j_iconst dX11_fadeItem_68 (inr_d rfl) ?_
            refine j_iald sh_126 dX11_fadeItem_69 (fun v12 => ?_)
            refine j_iast sh_110 dX11_fadeItem_70 (fun s13 => ?_)
            refine j_iconst dX11_fadeItem_71 (inr_d rfl) ?_
            refine j_istore_nE (ls2 := [some (.inr (.inr 100)), some (.inl v2), some (.inl 0)]) dX11_fadeItem_72 rfl (by decide) rfl rfl ?_
            refine j_msk [true, true, true] (jLX11_fadeItem_73 hq _ _ (fun s16 => ?_) _ _ _)
            refine j_iconst dX11_fadeItem_102 (inr_d rfl) ?_
            exact j_zret hq dX11_fadeItem_103
          · refine j_iconst dX11_fadeItem_57 (inr_d rfl) ?_
            exact j_zret hq dX11_fadeItem_58
abbrev rmX11_effectItem : Room := { frames := 2, cells := 0, slots := 0, locals := 46 }
theorem dX11_effectItem_0 : decode cX11_effectItem 0 = .ok (.aload_n 0, 1) := by decide +kernel
theorem dX11_effectItem_1 : decode cX11_effectItem 1 = .ok (.getfield 35, 3) := by decide +kernel
theorem dX11_effectItem_4 : decode cX11_effectItem 4 = .ok (.iconst 0, 1) := by decide +kernel
theorem dX11_effectItem_5 : decode cX11_effectItem 5 = .ok (.iaload, 1) := by decide +kernel
theorem dX11_effectItem_6 : decode cX11_effectItem 6 = .ok (.iconst 1, 1) := by decide +kernel
theorem dX11_effectItem_7 : decode cX11_effectItem 7 = .ok (.isub, 1) := by decide +kernel
theorem dX11_effectItem_8 : decode cX11_effectItem 8 = .ok (.istore_n 1, 1) := by decide +kernel
theorem dX11_effectItem_9 : decode cX11_effectItem 9 = .ok (.aload_n 0, 1) := by decide +kernel
theorem dX11_effectItem_10 : decode cX11_effectItem 10 = .ok (.iconst 3, 1) := by decide +kernel
theorem dX11_effectItem_11 : decode cX11_effectItem 11 = .ok (.invokevirtual 164, 3) := by decide +kernel
theorem dX11_effectItem_14 : decode cX11_effectItem 14 = .ok (.ifCond .eq 64, 3) := by decide +kernel
theorem dX11_effectItem_17 : decode cX11_effectItem 17 = .ok (.iload_n 1, 1) := by decide +kernel
theorem dX11_effectItem_18 : decode cX11_effectItem 18 = .ok (.ifCond .lt 60, 3) := by decide +kernel
theorem dX11_effectItem_21 : decode cX11_effectItem 21 = .ok (.aload_n 0, 1) := by decide +kernel
theorem dX11_effectItem_22 : decode cX11_effectItem 22 = .ok (.getfield 53, 3) := by decide +kernel
theorem dX11_effectItem_25 : decode cX11_effectItem 25 = .ok (.iload_n 1, 1) := by decide +kernel
theorem dX11_effectItem_26 : decode cX11_effectItem 26 = .ok (.iaload, 1) := by decide +kernel
theorem dX11_effectItem_27 : decode cX11_effectItem 27 = .ok (.iconst 4, 1) := by decide +kernel
theorem dX11_effectItem_28 : decode cX11_effectItem 28 = .ok (.if_icmp .eq 50, 3) := by decide +kernel
theorem dX11_effectItem_31 : decode cX11_effectItem 31 = .ok (.aload_n 0, 1) := by decide +kernel
theorem dX11_effectItem_32 : decode cX11_effectItem 32 = .ok (.getfield 95, 3) := by decide +kernel
theorem dX11_effectItem_35 : decode cX11_effectItem 35 = .ok (.iconst 1, 1) := by decide +kernel
theorem dX11_effectItem_36 : decode cX11_effectItem 36 = .ok (.iaload, 1) := by decide +kernel
theorem dX11_effectItem_37 : decode cX11_effectItem 37 = .ok (.iconst 1, 1) := by decide +kernel
theorem dX11_effectItem_38 : decode cX11_effectItem 38 = .ok (.if_icmp .lt 40, 3) := by decide +kernel
theorem dX11_effectItem_41 : decode cX11_effectItem 41 = .ok (.aload_n 0, 1) := by decide +kernel
theorem dX11_effectItem_42 : decode cX11_effectItem 42 = .ok (.getfield 95, 3) := by decide +kernel
theorem dX11_effectItem_45 : decode cX11_effectItem 45 = .ok (.iconst 0, 1) := by decide +kernel
theorem dX11_effectItem_46 : decode cX11_effectItem 46 = .ok (.iaload, 1) := by decide +kernel
theorem dX11_effectItem_47 : decode cX11_effectItem 47 = .ok (.aload_n 0, 1) := by decide +kernel
theorem dX11_effectItem_48 : decode cX11_effectItem 48 = .ok (.getfield 95, 3) := by decide +kernel
theorem dX11_effectItem_51 : decode cX11_effectItem 51 = .ok (.iconst 1, 1) := by decide +kernel
theorem dX11_effectItem_52 : decode cX11_effectItem 52 = .ok (.iaload, 1) := by decide +kernel
theorem dX11_effectItem_53 : decode cX11_effectItem 53 = .ok (.iadd, 1) := by decide +kernel
theorem dX11_effectItem_54 : decode cX11_effectItem 54 = .ok (.aload_n 0, 1) := by decide +kernel
theorem dX11_effectItem_55 : decode cX11_effectItem 55 = .ok (.getfield 41, 3) := by decide +kernel
theorem dX11_effectItem_58 : decode cX11_effectItem 58 = .ok (.iload_n 1, 1) := by decide +kernel
theorem dX11_effectItem_59 : decode cX11_effectItem 59 = .ok (.iaload, 1) := by decide +kernel
theorem dX11_effectItem_60 : decode cX11_effectItem 60 = .ok (.if_icmp .gt 18, 3) := by decide +kernel
theorem dX11_effectItem_63 : decode cX11_effectItem 63 = .ok (.aload_n 0, 1) := by decide +kernel
theorem dX11_effectItem_64 : decode cX11_effectItem 64 = .ok (.getfield 95, 3) := by decide +kernel
theorem dX11_effectItem_67 : decode cX11_effectItem 67 = .ok (.iconst 2, 1) := by decide +kernel
theorem dX11_effectItem_68 : decode cX11_effectItem 68 = .ok (.iaload, 1) := by decide +kernel
theorem dX11_effectItem_69 : decode cX11_effectItem 69 = .ok (.iconst 1, 1) := by decide +kernel
theorem dX11_effectItem_70 : decode cX11_effectItem 70 = .ok (.bipush 40, 2) := by decide +kernel
theorem dX11_effectItem_72 : decode cX11_effectItem 72 = .ok (.invokestatic 125, 3) := by decide +kernel
theorem dX11_effectItem_75 : decode cX11_effectItem 75 = .ok (.ifCond .ne 5, 3) := by decide +kernel
theorem dX11_effectItem_78 : decode cX11_effectItem 78 = .ok (.iconst 0, 1) := by decide +kernel
theorem dX11_effectItem_79 : decode cX11_effectItem 79 = .ok (.ireturn, 1) := by decide +kernel
theorem dX11_effectItem_80 : decode cX11_effectItem 80 = .ok (.iconst 4, 1) := by decide +kernel
theorem dX11_effectItem_81 : decode cX11_effectItem 81 = .ok (.iload_n 1, 1) := by decide +kernel
theorem dX11_effectItem_82 : decode cX11_effectItem 82 = .ok (.imul, 1) := by decide +kernel
theorem dX11_effectItem_83 : decode cX11_effectItem 83 = .ok (.aload_n 0, 1) := by decide +kernel
theorem dX11_effectItem_84 : decode cX11_effectItem 84 = .ok (.getfield 53, 3) := by decide +kernel
theorem dX11_effectItem_87 : decode cX11_effectItem 87 = .ok (.iload_n 1, 1) := by decide +kernel
theorem dX11_effectItem_88 : decode cX11_effectItem 88 = .ok (.iaload, 1) := by decide +kernel
theorem dX11_effectItem_89 : decode cX11_effectItem 89 = .ok (.iadd, 1) := by decide +kernel
theorem dX11_effectItem_90 : decode cX11_effectItem 90 = .ok (.istore_n 2, 1) := by decide +kernel
theorem dX11_effectItem_91 : decode cX11_effectItem 91 = .ok (.aload_n 0, 1) := by decide +kernel
theorem dX11_effectItem_92 : decode cX11_effectItem 92 = .ok (.getfield 56, 3) := by decide +kernel
theorem dX11_effectItem_95 : decode cX11_effectItem 95 = .ok (.iload_n 2, 1) := by decide +kernel
theorem dX11_effectItem_96 : decode cX11_effectItem 96 = .ok (.aload_n 0, 1) := by decide +kernel
theorem dX11_effectItem_97 : decode cX11_effectItem 97 = .ok (.getfield 95, 3) := by decide +kernel
theorem dX11_effectItem_100 : decode cX11_effectItem 100 = .ok (.iconst 0, 1) := by decide +kernel
theorem dX11_effectItem_101 : decode cX11_effectItem 101 = .ok (.iaload, 1) := by decide +kernel
theorem dX11_effectItem_102 : decode cX11_effectItem 102 = .ok (.iastore, 1) := by decide +kernel
theorem dX11_effectItem_103 : decode cX11_effectItem 103 = .ok (.aload_n 0, 1) := by decide +kernel
theorem dX11_effectItem_104 : decode cX11_effectItem 104 = .ok (.getfield 59, 3) := by decide +kernel
theorem dX11_effectItem_107 : decode cX11_effectItem 107 = .ok (.iload_n 2, 1) := by decide +kernel
theorem dX11_effectItem_108 : decode cX11_effectItem 108 = .ok (.aload_n 0, 1) := by decide +kernel
theorem dX11_effectItem_109 : decode cX11_effectItem 109 = .ok (.getfield 95, 3) := by decide +kernel
theorem dX11_effectItem_112 : decode cX11_effectItem 112 = .ok (.iconst 1, 1) := by decide +kernel
theorem dX11_effectItem_113 : decode cX11_effectItem 113 = .ok (.iaload, 1) := by decide +kernel
theorem dX11_effectItem_114 : decode cX11_effectItem 114 = .ok (.iastore, 1) := by decide +kernel
theorem dX11_effectItem_115 : decode cX11_effectItem 115 = .ok (.aload_n 0, 1) := by decide +kernel
theorem dX11_effectItem_116 : decode cX11_effectItem 116 = .ok (.getfield 62, 3) := by decide +kernel
theorem dX11_effectItem_119 : decode cX11_effectItem 119 = .ok (.iload_n 2, 1) := by decide +kernel
theorem dX11_effectItem_120 : decode cX11_effectItem 120 = .ok (.aload_n 0, 1) := by decide +kernel
theorem dX11_effectItem_121 : decode cX11_effectItem 121 = .ok (.getfield 95, 3) := by decide +kernel
theorem dX11_effectItem_124 : decode cX11_effectItem 124 = .ok (.iconst 2, 1) := by decide +kernel
theorem dX11_effectItem_125 : decode cX11_effectItem 125 = .ok (.iaload, 1) := by decide +kernel
theorem dX11_effectItem_126 : decode cX11_effectItem 126 = .ok (.iastore, 1) := by decide +kernel
theorem dX11_effectItem_127 : decode cX11_effectItem 127 = .ok (.aload_n 0, 1) := by decide +kernel
theorem dX11_effectItem_128 : decode cX11_effectItem 128 = .ok (.getfield 53, 3) := by decide +kernel
theorem dX11_effectItem_131 : decode cX11_effectItem 131 = .ok (.iload_n 1, 1) := by decide +kernel
theorem dX11_effectItem_132 : decode cX11_effectItem 132 = .ok (.dup2, 1) := by decide +kernel
theorem dX11_effectItem_133 : decode cX11_effectItem 133 = .ok (.iaload, 1) := by decide +kernel
theorem dX11_effectItem_134 : decode cX11_effectItem 134 = .ok (.iconst 1, 1) := by decide +kernel
theorem dX11_effectItem_135 : decode cX11_effectItem 135 = .ok (.iadd, 1) := by decide +kernel
theorem dX11_effectItem_136 : decode cX11_effectItem 136 = .ok (.iastore, 1) := by decide +kernel
theorem dX11_effectItem_137 : decode cX11_effectItem 137 = .ok (.iconst 1, 1) := by decide +kernel
theorem dX11_effectItem_138 : decode cX11_effectItem 138 = .ok (.ireturn, 1) := by decide +kernel
def fX11_effectItem (s0 : Mem) : Option Res :=
 rd (s0 106) 0 4 (fun v1 =>
 lt (wr (v1 - 1)) (fun v2 =>
 bnd (fX11_numbers 3 s0) (fun r3 s4 =>
 (if r3 = 0 then
 zr 0 s4
 else
 (if v2 < 0 then
 zr 0 s4
 else
 rd (s4 112) v2 64 (fun v5 =>
 (if v5 = 4 then
 zr 0 s4
 else
 rd (s4 126) 1 5 (fun v6 =>
 (if v6 < 1 then
 zr 0 s4
 else
 rd (s4 126) 0 5 (fun v7 =>
 rd (s4 126) 1 5 (fun v8 =>
 rd (s4 108) v2 64 (fun v9 =>
 (if v9 < wr (v7 + v8) then
 zr 0 s4
 else
 rd (s4 126) 2 5 (fun v10 =>
 bnd (fX11_in v10 1 40 s4) (fun r11 s12 =>
 (if r11 ≠ 0 then
 rd (s12 112) v2 64 (fun v13 =>
 lt (wr ((wr (4 * v2)) + v13)) (fun v14 =>
 rd (s12 126) 0 5 (fun v15 =>
 ST s12 113 v14 256 v15 (fun s16 =>
 rd (s16 126) 1 5 (fun v17 =>
 ST s16 114 v14 256 v17 (fun s18 =>
 rd (s18 126) 2 5 (fun v19 =>
 ST s18 115 v14 256 v19 (fun s20 =>
 rd (s20 112) v2 64 (fun v21 =>
 ST s20 112 v2 64 (wr (v21 + 1)) (fun s22 =>
 zr 1 s22))))))))))
 else
 zr 0 s12))))))))))))))))
set_option maxRecDepth 100000 in
set_option maxHeartbeats 4000000 in
theorem mX11_effectItem (l : Launch) (D : va_G) (ad : Nat → Nat) (cA : Nat → ClassId) (s0 : Mem) : MCi l D ad cA yX11_effectItem cX11_effectItem 3 (some .boolean) rmX11_effectItem [.inr (.inr 100)] s0 (fX11_effectItem s0) := by
  refine MCi_ofE (own := RX11) (ls := [some (.inr (.inr 100)), none, none]) 2 (by decide +kernel) rfl rfl (fun _ => Nat.le_of_ble_eq_true rfl) (fun K hq => ?_)
  unfold fX11_effectItem
  refine j_aload_n dX11_effectItem_0 rfl rfl ?_
  refine j_getR fl_RX11_35 sh_100 rfl dX11_effectItem_1 ?_
  refine j_iconst dX11_effectItem_4 (inr_d rfl) ?_
  refine j_iald sh_106 dX11_effectItem_5 (fun v1 => ?_)
  refine j_iconst dX11_effectItem_6 (inr_d rfl) ?_
  refine j_isub dX11_effectItem_7 ?_
  refine j_ltv (fun v2 => ?_)
  refine j_istore_nE (ls2 := [some (.inr (.inr 100)), some (.inl v2), none]) dX11_effectItem_8 rfl (by decide) rfl rfl ?_
  refine j_aload_n dX11_effectItem_9 rfl rfl ?_
  refine j_iconst dX11_effectItem_10 (inr_d rfl) ?_
  refine j_callVi (mX11_numbers (kl K) (kD K) (kad K) (kcA K) 3 s0) cw_RX11_164 sh_100 rfl ⟨rfl, rfl, by decide, by decide⟩ rfl rfl (Nat.le_of_ble_eq_true rfl) dX11_effectItem_11 (fun r3 s4 => ?_)
  refine j_if_eq (tgt := 78) dX11_effectItem_14 rfl ?_ ?_
  · refine j_iconst dX11_effectItem_78 (inr_d rfl) ?_
    exact j_zret hq dX11_effectItem_79
  · refine j_iload_n dX11_effectItem_17 rfl rfl ?_
    refine j_if_lt (tgt := 78) dX11_effectItem_18 rfl ?_ ?_
    · refine j_iconst dX11_effectItem_78 (inr_d rfl) ?_
      exact j_zret hq dX11_effectItem_79
    · refine j_aload_n dX11_effectItem_21 rfl rfl ?_
      refine j_getR fl_RX11_53 sh_100 rfl dX11_effectItem_22 ?_
      refine j_iload_n dX11_effectItem_25 rfl rfl ?_
      refine j_iald sh_112 dX11_effectItem_26 (fun v5 => ?_)
      refine j_iconst dX11_effectItem_27 (inr_d rfl) ?_
      refine j_icmp_eq (tgt := 78) dX11_effectItem_28 rfl ?_ ?_
      · refine j_iconst dX11_effectItem_78 (inr_d rfl) ?_
        exact j_zret hq dX11_effectItem_79
      · refine j_aload_n dX11_effectItem_31 rfl rfl ?_
        refine j_getR fl_RX11_95 sh_100 rfl dX11_effectItem_32 ?_
        refine j_iconst dX11_effectItem_35 (inr_d rfl) ?_
        refine j_iald sh_126 dX11_effectItem_36 (fun v6 => ?_)
        refine j_iconst dX11_effectItem_37 (inr_d rfl) ?_
        refine j_icmp_lt (tgt := 78) dX11_effectItem_38 rfl ?_ ?_
        · refine j_iconst dX11_effectItem_78 (inr_d rfl) ?_
          exact j_zret hq dX11_effectItem_79
        · refine j_aload_n dX11_effectItem_41 rfl rfl ?_
          refine j_getR fl_RX11_95 sh_100 rfl dX11_effectItem_42 ?_
          refine j_iconst dX11_effectItem_45 (inr_d rfl) ?_
          refine j_iald sh_126 dX11_effectItem_46 (fun v7 => ?_)
          refine j_aload_n dX11_effectItem_47 rfl rfl ?_
          refine j_getR fl_RX11_95 sh_100 rfl dX11_effectItem_48 ?_
          refine j_iconst dX11_effectItem_51 (inr_d rfl) ?_
          refine j_iald sh_126 dX11_effectItem_52 (fun v8 => ?_)
          refine j_iadd dX11_effectItem_53 ?_
          refine j_aload_n dX11_effectItem_54 rfl rfl ?_
          refine j_getR fl_RX11_41 sh_100 rfl dX11_effectItem_55 ?_
          refine j_iload_n dX11_effectItem_58 rfl rfl ?_
          refine j_iald sh_108 dX11_effectItem_59 (fun v9 => ?_)
          refine j_icmp_gt (tgt := 78) dX11_effectItem_60 rfl ?_ ?_
          · refine j_iconst dX11_effectItem_78 (inr_d rfl) ?_
            exact j_zret hq dX11_effectItem_79
          · refine j_aload_n dX11_effectItem_63 rfl rfl ?_
            refine j_getR fl_RX11_95 sh_100 rfl dX11_effectItem_64 ?_
            refine j_iconst dX11_effectItem_67 (inr_d rfl) ?_
            refine j_iald sh_126 dX11_effectItem_68 (fun v10 => ?_)
            refine j_iconst dX11_effectItem_69 (inr_d rfl) ?_
            refine j_bipush (v := 40) dX11_effectItem_70 (by decide +kernel) (inr_d rfl) ?_
            refine j_callSi (mX11_in (kl K) (kD K) (kad K) (kcA K) v10 1 40 s4) cw_RX11_125 ⟨rfl, rfl, by decide, by decide⟩ rfl rfl (Nat.le_of_ble_eq_true rfl) dX11_effectItem_72 (fun r11 s12 => ?_)
            refine j_if_ne (tgt := 80) dX11_effectItem_75 rfl ?_ ?_
            · refine j_iconst dX11_effectItem_80 (inr_d rfl) ?_
              refine j_iload_n dX11_effectItem_81 rfl rfl ?_
              refine j_imul dX11_effectItem_82 ?_
              refine j_aload_n dX11_effectItem_83 rfl rfl ?_
              refine j_getR fl_RX11_53 sh_100 rfl dX11_effectItem_84 ?_
              refine j_iload_n dX11_effectItem_87 rfl rfl ?_
              refine j_iald sh_112 dX11_effectItem_88 (fun v13 => ?_)
              refine j_iadd dX11_effectItem_89 ?_
              refine j_ltv (fun v14 => ?_)
              refine j_istore_nE (ls2 := [some (.inr (.inr 100)), some (.inl v2), some (.inl v14)]) dX11_effectItem_90 rfl (by decide) rfl rfl ?_
              refine j_aload_n dX11_effectItem_91 rfl rfl ?_
              refine j_getR fl_RX11_56 sh_100 rfl dX11_effectItem_92 ?_
              refine j_iload_n dX11_effectItem_95 rfl rfl ?_
              refine j_aload_n dX11_effectItem_96 rfl rfl ?_
              refine j_getR fl_RX11_95 sh_100 rfl dX11_effectItem_97 ?_
              refine j_iconst dX11_effectItem_100 (inr_d rfl) ?_
              refine j_iald sh_126 dX11_effectItem_101 (fun v15 => ?_)
              refine j_iast sh_113 dX11_effectItem_102 (fun s16 => ?_)
              refine j_aload_n dX11_effectItem_103 rfl rfl ?_
              refine j_getR fl_RX11_59 sh_100 rfl dX11_effectItem_104 ?_
              refine j_iload_n dX11_effectItem_107 rfl rfl ?_
              refine j_aload_n dX11_effectItem_108 rfl rfl ?_
              refine j_getR fl_RX11_95 sh_100 rfl dX11_effectItem_109 ?_
              refine j_iconst dX11_effectItem_112 (inr_d rfl) ?_
              refine j_iald sh_126 dX11_effectItem_113 (fun v17 => ?_)
              refine j_iast sh_114 dX11_effectItem_114 (fun s18 => ?_)
              refine j_aload_n dX11_effectItem_115 rfl rfl ?_
              refine j_getR fl_RX11_62 sh_100 rfl dX11_effectItem_116 ?_
              refine j_iload_n dX11_effectItem_119 rfl rfl ?_
              refine j_aload_n dX11_effectItem_120 rfl rfl ?_
              refine j_getR fl_RX11_95 sh_100 rfl dX11_effectItem_121 ?_
              refine j_iconst dX11_effectItem_124 (inr_d rfl) ?_
              refine j_iald sh_126 dX11_effectItem_125 (fun v19 => ?_)
              refine j_iast sh_115 dX11_effectItem_126 (fun s20 => ?_)
              refine j_aload_n dX11_effectItem_127 rfl rfl ?_
              refine j_getR fl_RX11_53 sh_100 rfl dX11_effectItem_128 ?_
              refine j_iload_n dX11_effectItem_131 rfl rfl ?_
              refine j_dup2 (b := 0) dX11_effectItem_132 ?_
              refine j_iald sh_112 dX11_effectItem_133 (fun v21 => ?_)
              refine j_iconst dX11_effectItem_134 (inr_d rfl) ?_
              refine j_iadd dX11_effectItem_135 ?_
              refine j_iast sh_112 dX11_effectItem_136 (fun s22 => ?_)
              refine j_iconst dX11_effectItem_137 (inr_d rfl) ?_
              exact j_zret hq dX11_effectItem_138
            · refine j_iconst dX11_effectItem_78 (inr_d rfl) ?_
              exact j_zret hq dX11_effectItem_79
abbrev rmX11_copyItem : Room := { frames := 2, cells := 0, slots := 0, locals := 46 }
theorem dX11_copyItem_0 : decode cX11_copyItem 0 = .ok (.aload_n 0, 1) := by decide +kernel
theorem dX11_copyItem_1 : decode cX11_copyItem 1 = .ok (.iconst 1, 1) := by decide +kernel
theorem dX11_copyItem_2 : decode cX11_copyItem 2 = .ok (.invokevirtual 164, 3) := by decide +kernel
theorem dX11_copyItem_5 : decode cX11_copyItem 5 = .ok (.ifCond .eq 28, 3) := by decide +kernel
theorem dX11_copyItem_8 : decode cX11_copyItem 8 = .ok (.aload_n 0, 1) := by decide +kernel
theorem dX11_copyItem_9 : decode cX11_copyItem 9 = .ok (.getfield 38, 3) := by decide +kernel
theorem dX11_copyItem_12 : decode cX11_copyItem 12 = .ok (.iconst 0, 1) := by decide +kernel
theorem dX11_copyItem_13 : decode cX11_copyItem 13 = .ok (.iaload, 1) := by decide +kernel
theorem dX11_copyItem_14 : decode cX11_copyItem 14 = .ok (.ifCond .gt 19, 3) := by decide +kernel
theorem dX11_copyItem_17 : decode cX11_copyItem 17 = .ok (.aload_n 0, 1) := by decide +kernel
theorem dX11_copyItem_18 : decode cX11_copyItem 18 = .ok (.getfield 95, 3) := by decide +kernel
theorem dX11_copyItem_21 : decode cX11_copyItem 21 = .ok (.iconst 0, 1) := by decide +kernel
theorem dX11_copyItem_22 : decode cX11_copyItem 22 = .ok (.iaload, 1) := by decide +kernel
theorem dX11_copyItem_23 : decode cX11_copyItem 23 = .ok (.iconst 1, 1) := by decide +kernel
theorem dX11_copyItem_24 : decode cX11_copyItem 24 = .ok (.sipush 999, 3) := by decide +kernel
theorem dX11_copyItem_27 : decode cX11_copyItem 27 = .ok (.invokestatic 125, 3) := by decide +kernel
theorem dX11_copyItem_30 : decode cX11_copyItem 30 = .ok (.ifCond .ne 5, 3) := by decide +kernel
theorem dX11_copyItem_33 : decode cX11_copyItem 33 = .ok (.iconst 0, 1) := by decide +kernel
theorem dX11_copyItem_34 : decode cX11_copyItem 34 = .ok (.ireturn, 1) := by decide +kernel
theorem dX11_copyItem_35 : decode cX11_copyItem 35 = .ok (.aload_n 0, 1) := by decide +kernel
theorem dX11_copyItem_36 : decode cX11_copyItem 36 = .ok (.getfield 38, 3) := by decide +kernel
theorem dX11_copyItem_39 : decode cX11_copyItem 39 = .ok (.iconst 0, 1) := by decide +kernel
theorem dX11_copyItem_40 : decode cX11_copyItem 40 = .ok (.aload_n 0, 1) := by decide +kernel
theorem dX11_copyItem_41 : decode cX11_copyItem 41 = .ok (.getfield 95, 3) := by decide +kernel
theorem dX11_copyItem_44 : decode cX11_copyItem 44 = .ok (.iconst 0, 1) := by decide +kernel
theorem dX11_copyItem_45 : decode cX11_copyItem 45 = .ok (.iaload, 1) := by decide +kernel
theorem dX11_copyItem_46 : decode cX11_copyItem 46 = .ok (.iastore, 1) := by decide +kernel
theorem dX11_copyItem_47 : decode cX11_copyItem 47 = .ok (.iconst 1, 1) := by decide +kernel
theorem dX11_copyItem_48 : decode cX11_copyItem 48 = .ok (.ireturn, 1) := by decide +kernel
def fX11_copyItem (s0 : Mem) : Option Res :=
 bnd (fX11_numbers 1 s0) (fun r1 s2 =>
 (if r1 = 0 then
 zr 0 s2
 else
 rd (s2 107) 0 4 (fun v3 =>
 (if 0 < v3 then
 zr 0 s2
 else
 rd (s2 126) 0 5 (fun v4 =>
 bnd (fX11_in v4 1 999 s2) (fun r5 s6 =>
 (if r5 ≠ 0 then
 rd (s6 126) 0 5 (fun v7 =>
 ST s6 107 0 4 v7 (fun s8 =>
 zr 1 s8))
 else
 zr 0 s6)))))))
set_option maxRecDepth 100000 in
set_option maxHeartbeats 4000000 in
theorem mX11_copyItem (l : Launch) (D : va_G) (ad : Nat → Nat) (cA : Nat → ClassId) (s0 : Mem) : MCi l D ad cA yX11_copyItem cX11_copyItem 1 (some .boolean) rmX11_copyItem [.inr (.inr 100)] s0 (fX11_copyItem s0) := by
  refine MCi_ofE (own := RX11) (ls := [some (.inr (.inr 100))]) 0 (by decide +kernel) rfl rfl (fun _ => Nat.le_of_ble_eq_true rfl) (fun K hq => ?_)
  unfold fX11_copyItem
  refine j_aload_n dX11_copyItem_0 rfl rfl ?_
  refine j_iconst dX11_copyItem_1 (inr_d rfl) ?_
  refine j_callVi (mX11_numbers (kl K) (kD K) (kad K) (kcA K) 1 s0) cw_RX11_164 sh_100 rfl ⟨rfl, rfl, by decide, by decide⟩ rfl rfl (Nat.le_of_ble_eq_true rfl) dX11_copyItem_2 (fun r1 s2 => ?_)
  refine j_if_eq (tgt := 33) dX11_copyItem_5 rfl ?_ ?_
  · refine j_iconst dX11_copyItem_33 (inr_d rfl) ?_
    exact j_zret hq dX11_copyItem_34
  · refine j_aload_n dX11_copyItem_8 rfl rfl ?_
    refine j_getR fl_RX11_38 sh_100 rfl dX11_copyItem_9 ?_
    refine j_iconst dX11_copyItem_12 (inr_d rfl) ?_
    refine j_iald sh_107 dX11_copyItem_13 (fun v3 => ?_)
    refine j_if_gt (tgt := 33) dX11_copyItem_14 rfl ?_ ?_
    · refine j_iconst dX11_copyItem_33 (inr_d rfl) ?_
      exact j_zret hq dX11_copyItem_34
    · refine j_aload_n dX11_copyItem_17 rfl rfl ?_
      refine j_getR fl_RX11_95 sh_100 rfl dX11_copyItem_18 ?_
      refine j_iconst dX11_copyItem_21 (inr_d rfl) ?_
      refine j_iald sh_126 dX11_copyItem_22 (fun v4 => ?_)
      refine j_iconst dX11_copyItem_23 (inr_d rfl) ?_
      refine j_sipush (v := 999) dX11_copyItem_24 (by decide +kernel) (inr_d rfl) ?_
      refine j_callSi (mX11_in (kl K) (kD K) (kad K) (kcA K) v4 1 999 s2) cw_RX11_125 ⟨rfl, rfl, by decide, by decide⟩ rfl rfl (Nat.le_of_ble_eq_true rfl) dX11_copyItem_27 (fun r5 s6 => ?_)
      refine j_if_ne (tgt := 35) dX11_copyItem_30 rfl ?_ ?_
      · refine j_aload_n dX11_copyItem_35 rfl rfl ?_
        refine j_getR fl_RX11_38 sh_100 rfl dX11_copyItem_36 ?_
        refine j_iconst dX11_copyItem_39 (inr_d rfl) ?_
        refine j_aload_n dX11_copyItem_40 rfl rfl ?_
        refine j_getR fl_RX11_95 sh_100 rfl dX11_copyItem_41 ?_
        refine j_iconst dX11_copyItem_44 (inr_d rfl) ?_
        refine j_iald sh_126 dX11_copyItem_45 (fun v7 => ?_)
        refine j_iast sh_107 dX11_copyItem_46 (fun s8 => ?_)
        refine j_iconst dX11_copyItem_47 (inr_d rfl) ?_
        exact j_zret hq dX11_copyItem_48
      · refine j_iconst dX11_copyItem_33 (inr_d rfl) ?_
        exact j_zret hq dX11_copyItem_34
abbrev rmX11_readAll : Room := { frames := 3, cells := 0, slots := 0, locals := 68 }
theorem dX11_readAll_0 : decode cX11_readAll 0 = .ok (.aload_n 0, 1) := by decide +kernel
theorem dX11_readAll_1 : decode cX11_readAll 1 = .ok (.getfield 35, 3) := by decide +kernel
theorem dX11_readAll_4 : decode cX11_readAll 4 = .ok (.iconst 0, 1) := by decide +kernel
theorem dX11_readAll_5 : decode cX11_readAll 5 = .ok (.iconst 0, 1) := by decide +kernel
theorem dX11_readAll_6 : decode cX11_readAll 6 = .ok (.iastore, 1) := by decide +kernel
theorem dX11_readAll_7 : decode cX11_readAll 7 = .ok (.aload_n 0, 1) := by decide +kernel
theorem dX11_readAll_8 : decode cX11_readAll 8 = .ok (.getfield 38, 3) := by decide +kernel
theorem dX11_readAll_11 : decode cX11_readAll 11 = .ok (.iconst 0, 1) := by decide +kernel
theorem dX11_readAll_12 : decode cX11_readAll 12 = .ok (.iconst 0, 1) := by decide +kernel
theorem dX11_readAll_13 : decode cX11_readAll 13 = .ok (.iastore, 1) := by decide +kernel
theorem dX11_readAll_14 : decode cX11_readAll 14 = .ok (.aload_n 0, 1) := by decide +kernel
theorem dX11_readAll_15 : decode cX11_readAll 15 = .ok (.iconst 0, 1) := by decide +kernel
theorem dX11_readAll_16 : decode cX11_readAll 16 = .ok (.putfield 161, 3) := by decide +kernel
theorem dX11_readAll_19 : decode cX11_readAll 19 = .ok (.aload_n 0, 1) := by decide +kernel
theorem dX11_readAll_20 : decode cX11_readAll 20 = .ok (.getfield 161, 3) := by decide +kernel
theorem dX11_readAll_23 : decode cX11_readAll 23 = .ok (.aload_n 0, 1) := by decide +kernel
theorem dX11_readAll_24 : decode cX11_readAll 24 = .ok (.getfield 156, 3) := by decide +kernel
theorem dX11_readAll_27 : decode cX11_readAll 27 = .ok (.if_icmp .ge 95, 3) := by decide +kernel
theorem dX11_readAll_30 : decode cX11_readAll 30 = .ok (.aload_n 0, 1) := by decide +kernel
theorem dX11_readAll_31 : decode cX11_readAll 31 = .ok (.getfield 161, 3) := by decide +kernel
theorem dX11_readAll_34 : decode cX11_readAll 34 = .ok (.istore_n 1, 1) := by decide +kernel
theorem dX11_readAll_35 : decode cX11_readAll 35 = .ok (.aload_n 0, 1) := by decide +kernel
theorem dX11_readAll_36 : decode cX11_readAll 36 = .ok (.getfield 65, 3) := by decide +kernel
theorem dX11_readAll_39 : decode cX11_readAll 39 = .ok (.aload_n 0, 1) := by decide +kernel
theorem dX11_readAll_40 : decode cX11_readAll 40 = .ok (.getfield 161, 3) := by decide +kernel
theorem dX11_readAll_43 : decode cX11_readAll 43 = .ok (.iaload, 1) := by decide +kernel
theorem dX11_readAll_44 : decode cX11_readAll 44 = .ok (.istore_n 2, 1) := by decide +kernel
theorem dX11_readAll_45 : decode cX11_readAll 45 = .ok (.aload_n 0, 1) := by decide +kernel
theorem dX11_readAll_46 : decode cX11_readAll 46 = .ok (.dup, 1) := by decide +kernel
theorem dX11_readAll_47 : decode cX11_readAll 47 = .ok (.getfield 161, 3) := by decide +kernel
theorem dX11_readAll_50 : decode cX11_readAll 50 = .ok (.iconst 1, 1) := by decide +kernel
theorem dX11_readAll_51 : decode cX11_readAll 51 = .ok (.iadd, 1) := by decide +kernel
theorem dX11_readAll_52 : decode cX11_readAll 52 = .ok (.putfield 161, 3) := by decide +kernel
theorem dX11_readAll_55 : decode cX11_readAll 55 = .ok (.iload_n 2, 1) := by decide +kernel
theorem dX11_readAll_56 : decode cX11_readAll 56 = .ok (.bipush 115, 2) := by decide +kernel
theorem dX11_readAll_58 : decode cX11_readAll 58 = .ok (.if_icmp .ne 10, 3) := by decide +kernel
theorem dX11_readAll_61 : decode cX11_readAll 61 = .ok (.aload_n 0, 1) := by decide +kernel
theorem dX11_readAll_62 : decode cX11_readAll 62 = .ok (.invokevirtual 171, 3) := by decide +kernel
theorem dX11_readAll_65 : decode cX11_readAll 65 = .ok (.goto 47, 3) := by decide +kernel
theorem dX11_readAll_68 : decode cX11_readAll 68 = .ok (.iload_n 2, 1) := by decide +kernel
theorem dX11_readAll_69 : decode cX11_readAll 69 = .ok (.bipush 102, 2) := by decide +kernel
theorem dX11_readAll_71 : decode cX11_readAll 71 = .ok (.if_icmp .ne 10, 3) := by decide +kernel
theorem dX11_readAll_74 : decode cX11_readAll 74 = .ok (.aload_n 0, 1) := by decide +kernel
theorem dX11_readAll_75 : decode cX11_readAll 75 = .ok (.invokevirtual 175, 3) := by decide +kernel
theorem dX11_readAll_78 : decode cX11_readAll 78 = .ok (.goto 34, 3) := by decide +kernel
theorem dX11_readAll_81 : decode cX11_readAll 81 = .ok (.iload_n 2, 1) := by decide +kernel
theorem dX11_readAll_82 : decode cX11_readAll 82 = .ok (.bipush 101, 2) := by decide +kernel
theorem dX11_readAll_84 : decode cX11_readAll 84 = .ok (.if_icmp .ne 10, 3) := by decide +kernel
theorem dX11_readAll_87 : decode cX11_readAll 87 = .ok (.aload_n 0, 1) := by decide +kernel
theorem dX11_readAll_88 : decode cX11_readAll 88 = .ok (.invokevirtual 178, 3) := by decide +kernel
theorem dX11_readAll_91 : decode cX11_readAll 91 = .ok (.goto 21, 3) := by decide +kernel
theorem dX11_readAll_94 : decode cX11_readAll 94 = .ok (.iload_n 2, 1) := by decide +kernel
theorem dX11_readAll_95 : decode cX11_readAll 95 = .ok (.bipush 99, 2) := by decide +kernel
theorem dX11_readAll_97 : decode cX11_readAll 97 = .ok (.if_icmp .ne 14, 3) := by decide +kernel
theorem dX11_readAll_100 : decode cX11_readAll 100 = .ok (.aload_n 0, 1) := by decide +kernel
theorem dX11_readAll_101 : decode cX11_readAll 101 = .ok (.invokevirtual 181, 3) := by decide +kernel
theorem dX11_readAll_104 : decode cX11_readAll 104 = .ok (.ifCond .eq 7, 3) := by decide +kernel
theorem dX11_readAll_107 : decode cX11_readAll 107 = .ok (.iconst 1, 1) := by decide +kernel
theorem dX11_readAll_108 : decode cX11_readAll 108 = .ok (.goto 4, 3) := by decide +kernel
theorem dX11_readAll_111 : decode cX11_readAll 111 = .ok (.iconst 0, 1) := by decide +kernel
theorem dX11_readAll_112 : decode cX11_readAll 112 = .ok (.istore_n 3, 1) := by decide +kernel
theorem dX11_readAll_113 : decode cX11_readAll 113 = .ok (.iload_n 3, 1) := by decide +kernel
theorem dX11_readAll_114 : decode cX11_readAll 114 = .ok (.ifCond .ne 5, 3) := by decide +kernel
theorem dX11_readAll_117 : decode cX11_readAll 117 = .ok (.iload_n 1, 1) := by decide +kernel
theorem dX11_readAll_118 : decode cX11_readAll 118 = .ok (.ireturn, 1) := by decide +kernel
theorem dX11_readAll_119 : decode cX11_readAll 119 = .ok (.goto (-100), 3) := by decide +kernel
theorem dX11_readAll_122 : decode cX11_readAll 122 = .ok (.bipush (-4), 2) := by decide +kernel
theorem dX11_readAll_124 : decode cX11_readAll 124 = .ok (.ireturn, 1) := by decide +kernel
def LX11_readAll_19 (k122 : Mem → Option Res) : Nat → Mem → Option Res
  | 0 => fun  _ => none
  | n + 1 => fun  s => (if s 100 20 ≤ s 100 33 then
 k122 s
 else
 lt (s 100 33) (fun v4 =>
 rd (s 116) (s 100 33) 400 (fun v5 =>
 lt (up s 100 33 (wr ((s 100 33) + 1))) (fun s6 =>
 jn (fun (u7 : Int) (s8 : Mem) =>
 (if u7 ≠ 0 then
 LX11_readAll_19 k122 n s8
 else
 some (v4, s8))) (fun k112 =>
 (if v5 ≠ 115 then
 (if v5 ≠ 102 then
 (if v5 ≠ 101 then
 (if v5 ≠ 99 then
 k112 0 s6
 else
 bnd (fX11_copyItem s6) (fun r9 s10 =>
 (if r9 = 0 then
 k112 0 s10
 else
 k112 1 s10)))
 else
 bnd (fX11_effectItem s6) (fun r11 s12 =>
 k112 r11 s12))
 else
 bnd (fX11_fadeItem s6) (fun r13 s14 =>
 k112 r13 s14))
 else
 bnd (fX11_shotItem s6) (fun r15 s16 =>
 k112 r15 s16)))))))
def fX11_readAll (s0 : Mem) : Option Res :=
 ST s0 106 0 4 0 (fun s1 =>
 ST s1 107 0 4 0 (fun s2 =>
 lt (up s2 100 33 0) (fun s3 =>
 LX11_readAll_19 (fun s17 =>
 some ((-4), s17)) FU s3)))
set_option maxRecDepth 100000 in
set_option maxHeartbeats 4000000 in
theorem jLX11_readAll_19 {K : KT} (hq : KI K (some .int)) (k122 : Mem → Option Res) (hk122 : ∀ (s : Mem), J K rmX11_readAll cX11_readAll RX11 4 122 [none, none, none, none] [] s (k122 s)) : ∀ (n : Nat) (s : Mem), J K rmX11_readAll cX11_readAll RX11 4 19 [some (.inr (.inr 100)), none, none, none] [] s (LX11_readAll_19 k122 n s) := by
  intro n
  induction n with
  | zero => intros; exact J_none
  | succ n ih =>
    intro  s
    show J K _ _ _ _ _ _ _ _ (LX11_readAll_19 k122 (n + 1)  s)
    simp only [LX11_readAll_19]
    refine j_aload_n dX11_readAll_19 rfl rfl ?_
    refine j_getI fl_RX11_161 sh_100 rfl dX11_readAll_20 ?_
    refine j_aload_n dX11_readAll_23 rfl rfl ?_
    refine j_getI fl_RX11_156 sh_100 rfl dX11_readAll_24 ?_
    refine j_icmp_ge (tgt := 122) dX11_readAll_27 rfl ?_ ?_
    · exact j_msk [false, false, false, false] (hk122 _)
    · refine j_aload_n dX11_readAll_30 rfl rfl ?_
      refine j_getI fl_RX11_161 sh_100 rfl dX11_readAll_31 ?_
      refine j_ltv (fun v4 => ?_)
      refine j_istore_nE (ls2 := [some (.inr (.inr 100)), some (.inl v4), none, none]) dX11_readAll_34 rfl (by decide) rfl rfl ?_
      refine j_aload_n dX11_readAll_35 rfl rfl ?_
      refine j_getR fl_RX11_65 sh_100 rfl dX11_readAll_36 ?_
      refine j_aload_n dX11_readAll_39 rfl rfl ?_
      refine j_getI fl_RX11_161 sh_100 rfl dX11_readAll_40 ?_
      refine j_iald sh_116 dX11_readAll_43 (fun v5 => ?_)
      refine j_istore_nE (ls2 := [some (.inr (.inr 100)), some (.inl v4), some (.inl v5), none]) dX11_readAll_44 rfl (by decide) rfl rfl ?_
      refine j_aload_n dX11_readAll_45 rfl rfl ?_
      refine j_dup rfl dX11_readAll_46 ?_
      refine j_getI fl_RX11_161 sh_100 rfl dX11_readAll_47 ?_
      refine j_iconst dX11_readAll_50 (inr_d rfl) ?_
      refine j_iadd dX11_readAll_51 ?_
      refine j_putI fp_RX11_161 sh_100 rfl dX11_readAll_52 (fun s6 => ?_)
      refine j_iload_n dX11_readAll_55 rfl rfl ?_
      refine j_bipush (v := 115) dX11_readAll_56 (by decide +kernel) (inr_d rfl) ?_
      refine j_jn (fun k112 => ∀ (u7 : Int) (s8 : Mem), J K rmX11_readAll cX11_readAll RX11 4 112 [some (.inr (.inr 100)), some (.inl v4), none, none] [.inl u7] s8 (k112 u7 s8)) (fun u7 s8 => ?_) (fun k112 hk112 => ?_)
      · refine j_istore_nE (ls2 := [some (.inr (.inr 100)), some (.inl v4), none, some (.inl u7)]) dX11_readAll_112 rfl (by decide) rfl rfl ?_
        refine j_iload_n dX11_readAll_113 rfl rfl ?_
        refine j_if_ne (tgt := 119) dX11_readAll_114 rfl ?_ ?_
        · refine j_goto (tgt := 19) dX11_readAll_119 rfl ?_
          exact j_msk [true, false, false, false] (ih _)
        · refine j_iload_n dX11_readAll_117 rfl rfl ?_
          exact j_iret hq dX11_readAll_118
      refine j_icmp_ne (tgt := 68) dX11_readAll_58 rfl ?_ ?_
      · refine j_iload_n dX11_readAll_68 rfl rfl ?_
        refine j_bipush (v := 102) dX11_readAll_69 (by decide +kernel) (inr_d rfl) ?_
        refine j_icmp_ne (tgt := 81) dX11_readAll_71 rfl ?_ ?_
        · refine j_iload_n dX11_readAll_81 rfl rfl ?_
          refine j_bipush (v := 101) dX11_readAll_82 (by decide +kernel) (inr_d rfl) ?_
          refine j_icmp_ne (tgt := 94) dX11_readAll_84 rfl ?_ ?_
          · refine j_iload_n dX11_readAll_94 rfl rfl ?_
            refine j_bipush (v := 99) dX11_readAll_95 (by decide +kernel) (inr_d rfl) ?_
            refine j_icmp_ne (tgt := 111) dX11_readAll_97 rfl ?_ ?_
            · refine j_iconst dX11_readAll_111 (inr_d rfl) ?_
              exact j_msk [true, true, false, false] (hk112 _ _)
            · refine j_aload_n dX11_readAll_100 rfl rfl ?_
              refine j_callVi (mX11_copyItem (kl K) (kD K) (kad K) (kcA K) s6) cw_RX11_181 sh_100 rfl ⟨rfl, rfl, by decide, by decide⟩ rfl rfl (Nat.le_of_ble_eq_true rfl) dX11_readAll_101 (fun r9 s10 => ?_)
              refine j_if_eq (tgt := 111) dX11_readAll_104 rfl ?_ ?_
              · refine j_iconst dX11_readAll_111 (inr_d rfl) ?_
                exact j_msk [true, true, false, false] (hk112 _ _)
              · refine j_iconst dX11_readAll_107 (inr_d rfl) ?_
                refine j_goto (tgt := 112) dX11_readAll_108 rfl ?_
                exact j_msk [true, true, false, false] (hk112 _ _)
          · refine j_aload_n dX11_readAll_87 rfl rfl ?_
            refine j_callVi (mX11_effectItem (kl K) (kD K) (kad K) (kcA K) s6) cw_RX11_178 sh_100 rfl ⟨rfl, rfl, by decide, by decide⟩ rfl rfl (Nat.le_of_ble_eq_true rfl) dX11_readAll_88 (fun r11 s12 => ?_)
            refine j_goto (tgt := 112) dX11_readAll_91 rfl ?_
            exact j_msk [true, true, false, false] (hk112 _ _)
        · refine j_aload_n dX11_readAll_74 rfl rfl ?_
          refine j_callVi (mX11_fadeItem (kl K) (kD K) (kad K) (kcA K) s6) cw_RX11_175 sh_100 rfl ⟨rfl, rfl, by decide, by decide⟩ rfl rfl (Nat.le_of_ble_eq_true rfl) dX11_readAll_75 (fun r13 s14 => ?_)
          refine j_goto (tgt := 112) dX11_readAll_78 rfl ?_
          exact j_msk [true, true, false, false] (hk112 _ _)
      · refine j_aload_n dX11_readAll_61 rfl rfl ?_
        refine j_callVi (mX11_shotItem (kl K) (kD K) (kad K) (kcA K) s6) cw_RX11_171 sh_100 rfl ⟨rfl, rfl, by decide, by decide⟩ rfl rfl (Nat.le_of_ble_eq_true rfl) dX11_readAll_62 (fun r15 s16 => ?_)
        refine j_goto (tgt := 112) dX11_readAll_65 rfl ?_
        exact j_msk [true, true, false, false] (hk112 _ _)
set_option maxRecDepth 100000 in
set_option maxHeartbeats 4000000 in
theorem mX11_readAll (l : Launch) (D : va_G) (ad : Nat → Nat) (cA : Nat → ClassId) (s0 : Mem) : MCi l D ad cA yX11_readAll cX11_readAll 4 (some .int) rmX11_readAll [.inr (.inr 100)] s0 (fX11_readAll s0) := by
  refine MCi_ofE (own := RX11) (ls := [some (.inr (.inr 100)), none, none, none]) 3 (by decide +kernel) rfl rfl (fun _ => Nat.le_of_ble_eq_true rfl) (fun K hq => ?_)
  unfold fX11_readAll
  refine j_aload_n dX11_readAll_0 rfl rfl ?_
  refine j_getR fl_RX11_35 sh_100 rfl dX11_readAll_1 ?_
  refine j_iconst dX11_readAll_4 (inr_d rfl) ?_
  refine j_iconst dX11_readAll_5 (inr_d rfl) ?_
  refine j_iast sh_106 dX11_readAll_6 (fun s1 => ?_)
  refine j_aload_n dX11_readAll_7 rfl rfl ?_
  refine j_getR fl_RX11_38 sh_100 rfl dX11_readAll_8 ?_
  refine j_iconst dX11_readAll_11 (inr_d rfl) ?_
  refine j_iconst dX11_readAll_12 (inr_d rfl) ?_
  refine j_iast sh_107 dX11_readAll_13 (fun s2 => ?_)
  refine j_aload_n dX11_readAll_14 rfl rfl ?_
  refine j_iconst dX11_readAll_15 (inr_d rfl) ?_
  refine j_putI fp_RX11_161 sh_100 rfl dX11_readAll_16 (fun s3 => ?_)
  refine j_msk [true, false, false, false] (jLX11_readAll_19 hq _ (fun s17 => ?_) _ _)
  refine j_bipush (v := (-4)) dX11_readAll_122 (by decide +kernel) (inr_d rfl) ?_
  exact j_iret hq dX11_readAll_124
abbrev rmX11_fault : Room := { frames := 4, cells := 0, slots := 0, locals := 91 }
theorem dX11_fault_0 : decode cX11_fault 0 = .ok (.aload_n 0, 1) := by decide +kernel
theorem dX11_fault_1 : decode cX11_fault 1 = .ok (.invokevirtual 184, 3) := by decide +kernel
theorem dX11_fault_4 : decode cX11_fault 4 = .ok (.ireturn, 1) := by decide +kernel
def fX11_fault (s0 : Mem) : Option Res :=
 bnd (fX11_readAll s0) (fun r1 s2 =>
 some (r1, s2))
set_option maxRecDepth 100000 in
set_option maxHeartbeats 4000000 in
theorem mX11_fault (l : Launch) (D : va_G) (ad : Nat → Nat) (cA : Nat → ClassId) (s0 : Mem) : MCi l D ad cA yX11_fault cX11_fault 1 (some .int) rmX11_fault [.inr (.inr 100)] s0 (fX11_fault s0) := by
  refine MCi_ofE (own := RX11) (ls := [some (.inr (.inr 100))]) 0 (by decide +kernel) rfl rfl (fun _ => Nat.le_of_ble_eq_true rfl) (fun K hq => ?_)
  unfold fX11_fault
  refine j_aload_n dX11_fault_0 rfl rfl ?_
  refine j_callVi (mX11_readAll (kl K) (kD K) (kad K) (kcA K) s0) cw_RX11_184 sh_100 rfl ⟨rfl, rfl, by decide, by decide⟩ rfl rfl (Nat.le_of_ble_eq_true rfl) dX11_fault_1 (fun r1 s2 => ?_)
  exact j_iret hq dX11_fault_4
abbrev rmX11_copyList : Room := { frames := 0, cells := 0, slots := 0, locals := 0 }
theorem dX11_copyList_0 : decode cX11_copyList 0 = .ok (.aload_n 0, 1) := by decide +kernel
theorem dX11_copyList_1 : decode cX11_copyList 1 = .ok (.getfield 35, 3) := by decide +kernel
theorem dX11_copyList_4 : decode cX11_copyList 4 = .ok (.iload_n 2, 1) := by decide +kernel
theorem dX11_copyList_5 : decode cX11_copyList 5 = .ok (.aload_n 0, 1) := by decide +kernel
theorem dX11_copyList_6 : decode cX11_copyList 6 = .ok (.getfield 35, 3) := by decide +kernel
theorem dX11_copyList_9 : decode cX11_copyList 9 = .ok (.iload_n 1, 1) := by decide +kernel
theorem dX11_copyList_10 : decode cX11_copyList 10 = .ok (.iaload, 1) := by decide +kernel
theorem dX11_copyList_11 : decode cX11_copyList 11 = .ok (.iastore, 1) := by decide +kernel
theorem dX11_copyList_12 : decode cX11_copyList 12 = .ok (.aload_n 0, 1) := by decide +kernel
theorem dX11_copyList_13 : decode cX11_copyList 13 = .ok (.getfield 38, 3) := by decide +kernel
theorem dX11_copyList_16 : decode cX11_copyList 16 = .ok (.iload_n 2, 1) := by decide +kernel
theorem dX11_copyList_17 : decode cX11_copyList 17 = .ok (.aload_n 0, 1) := by decide +kernel
theorem dX11_copyList_18 : decode cX11_copyList 18 = .ok (.getfield 38, 3) := by decide +kernel
theorem dX11_copyList_21 : decode cX11_copyList 21 = .ok (.iload_n 1, 1) := by decide +kernel
theorem dX11_copyList_22 : decode cX11_copyList 22 = .ok (.iaload, 1) := by decide +kernel
theorem dX11_copyList_23 : decode cX11_copyList 23 = .ok (.iastore, 1) := by decide +kernel
theorem dX11_copyList_24 : decode cX11_copyList 24 = .ok (.iconst 0, 1) := by decide +kernel
theorem dX11_copyList_25 : decode cX11_copyList 25 = .ok (.istore_n 3, 1) := by decide +kernel
theorem dX11_copyList_26 : decode cX11_copyList 26 = .ok (.iload_n 3, 1) := by decide +kernel
theorem dX11_copyList_27 : decode cX11_copyList 27 = .ok (.bipush 16, 2) := by decide +kernel
theorem dX11_copyList_29 : decode cX11_copyList 29 = .ok (.if_icmp .ge 75, 3) := by decide +kernel
theorem dX11_copyList_32 : decode cX11_copyList 32 = .ok (.aload_n 0, 1) := by decide +kernel
theorem dX11_copyList_33 : decode cX11_copyList 33 = .ok (.getfield 41, 3) := by decide +kernel
theorem dX11_copyList_36 : decode cX11_copyList 36 = .ok (.bipush 16, 2) := by decide +kernel
theorem dX11_copyList_38 : decode cX11_copyList 38 = .ok (.iload_n 2, 1) := by decide +kernel
theorem dX11_copyList_39 : decode cX11_copyList 39 = .ok (.imul, 1) := by decide +kernel
theorem dX11_copyList_40 : decode cX11_copyList 40 = .ok (.iload_n 3, 1) := by decide +kernel
theorem dX11_copyList_41 : decode cX11_copyList 41 = .ok (.iadd, 1) := by decide +kernel
theorem dX11_copyList_42 : decode cX11_copyList 42 = .ok (.aload_n 0, 1) := by decide +kernel
theorem dX11_copyList_43 : decode cX11_copyList 43 = .ok (.getfield 41, 3) := by decide +kernel
theorem dX11_copyList_46 : decode cX11_copyList 46 = .ok (.bipush 16, 2) := by decide +kernel
theorem dX11_copyList_48 : decode cX11_copyList 48 = .ok (.iload_n 1, 1) := by decide +kernel
theorem dX11_copyList_49 : decode cX11_copyList 49 = .ok (.imul, 1) := by decide +kernel
theorem dX11_copyList_50 : decode cX11_copyList 50 = .ok (.iload_n 3, 1) := by decide +kernel
theorem dX11_copyList_51 : decode cX11_copyList 51 = .ok (.iadd, 1) := by decide +kernel
theorem dX11_copyList_52 : decode cX11_copyList 52 = .ok (.iaload, 1) := by decide +kernel
theorem dX11_copyList_53 : decode cX11_copyList 53 = .ok (.iastore, 1) := by decide +kernel
theorem dX11_copyList_54 : decode cX11_copyList 54 = .ok (.aload_n 0, 1) := by decide +kernel
theorem dX11_copyList_55 : decode cX11_copyList 55 = .ok (.getfield 47, 3) := by decide +kernel
theorem dX11_copyList_58 : decode cX11_copyList 58 = .ok (.bipush 16, 2) := by decide +kernel
theorem dX11_copyList_60 : decode cX11_copyList 60 = .ok (.iload_n 2, 1) := by decide +kernel
theorem dX11_copyList_61 : decode cX11_copyList 61 = .ok (.imul, 1) := by decide +kernel
theorem dX11_copyList_62 : decode cX11_copyList 62 = .ok (.iload_n 3, 1) := by decide +kernel
theorem dX11_copyList_63 : decode cX11_copyList 63 = .ok (.iadd, 1) := by decide +kernel
theorem dX11_copyList_64 : decode cX11_copyList 64 = .ok (.aload_n 0, 1) := by decide +kernel
theorem dX11_copyList_65 : decode cX11_copyList 65 = .ok (.getfield 47, 3) := by decide +kernel
theorem dX11_copyList_68 : decode cX11_copyList 68 = .ok (.bipush 16, 2) := by decide +kernel
theorem dX11_copyList_70 : decode cX11_copyList 70 = .ok (.iload_n 1, 1) := by decide +kernel
theorem dX11_copyList_71 : decode cX11_copyList 71 = .ok (.imul, 1) := by decide +kernel
theorem dX11_copyList_72 : decode cX11_copyList 72 = .ok (.iload_n 3, 1) := by decide +kernel
theorem dX11_copyList_73 : decode cX11_copyList 73 = .ok (.iadd, 1) := by decide +kernel
theorem dX11_copyList_74 : decode cX11_copyList 74 = .ok (.iaload, 1) := by decide +kernel
theorem dX11_copyList_75 : decode cX11_copyList 75 = .ok (.iastore, 1) := by decide +kernel
theorem dX11_copyList_76 : decode cX11_copyList 76 = .ok (.aload_n 0, 1) := by decide +kernel
theorem dX11_copyList_77 : decode cX11_copyList 77 = .ok (.getfield 53, 3) := by decide +kernel
theorem dX11_copyList_80 : decode cX11_copyList 80 = .ok (.bipush 16, 2) := by decide +kernel
theorem dX11_copyList_82 : decode cX11_copyList 82 = .ok (.iload_n 2, 1) := by decide +kernel
theorem dX11_copyList_83 : decode cX11_copyList 83 = .ok (.imul, 1) := by decide +kernel
theorem dX11_copyList_84 : decode cX11_copyList 84 = .ok (.iload_n 3, 1) := by decide +kernel
theorem dX11_copyList_85 : decode cX11_copyList 85 = .ok (.iadd, 1) := by decide +kernel
theorem dX11_copyList_86 : decode cX11_copyList 86 = .ok (.aload_n 0, 1) := by decide +kernel
theorem dX11_copyList_87 : decode cX11_copyList 87 = .ok (.getfield 53, 3) := by decide +kernel
theorem dX11_copyList_90 : decode cX11_copyList 90 = .ok (.bipush 16, 2) := by decide +kernel
theorem dX11_copyList_92 : decode cX11_copyList 92 = .ok (.iload_n 1, 1) := by decide +kernel
theorem dX11_copyList_93 : decode cX11_copyList 93 = .ok (.imul, 1) := by decide +kernel
theorem dX11_copyList_94 : decode cX11_copyList 94 = .ok (.iload_n 3, 1) := by decide +kernel
theorem dX11_copyList_95 : decode cX11_copyList 95 = .ok (.iadd, 1) := by decide +kernel
theorem dX11_copyList_96 : decode cX11_copyList 96 = .ok (.iaload, 1) := by decide +kernel
theorem dX11_copyList_97 : decode cX11_copyList 97 = .ok (.iastore, 1) := by decide +kernel
theorem dX11_copyList_98 : decode cX11_copyList 98 = .ok (.iinc 3 1, 3) := by decide +kernel
theorem dX11_copyList_101 : decode cX11_copyList 101 = .ok (.goto (-75), 3) := by decide +kernel
theorem dX11_copyList_104 : decode cX11_copyList 104 = .ok (.iconst 0, 1) := by decide +kernel
theorem dX11_copyList_105 : decode cX11_copyList 105 = .ok (.istore_n 3, 1) := by decide +kernel
theorem dX11_copyList_106 : decode cX11_copyList 106 = .ok (.iload_n 3, 1) := by decide +kernel
theorem dX11_copyList_107 : decode cX11_copyList 107 = .ok (.bipush 48, 2) := by decide +kernel
theorem dX11_copyList_109 : decode cX11_copyList 109 = .ok (.if_icmp .ge 53, 3) := by decide +kernel
theorem dX11_copyList_112 : decode cX11_copyList 112 = .ok (.aload_n 0, 1) := by decide +kernel
theorem dX11_copyList_113 : decode cX11_copyList 113 = .ok (.getfield 44, 3) := by decide +kernel
theorem dX11_copyList_116 : decode cX11_copyList 116 = .ok (.bipush 48, 2) := by decide +kernel
theorem dX11_copyList_118 : decode cX11_copyList 118 = .ok (.iload_n 2, 1) := by decide +kernel
theorem dX11_copyList_119 : decode cX11_copyList 119 = .ok (.imul, 1) := by decide +kernel
theorem dX11_copyList_120 : decode cX11_copyList 120 = .ok (.iload_n 3, 1) := by decide +kernel
theorem dX11_copyList_121 : decode cX11_copyList 121 = .ok (.iadd, 1) := by decide +kernel
theorem dX11_copyList_122 : decode cX11_copyList 122 = .ok (.aload_n 0, 1) := by decide +kernel
theorem dX11_copyList_123 : decode cX11_copyList 123 = .ok (.getfield 44, 3) := by decide +kernel
theorem dX11_copyList_126 : decode cX11_copyList 126 = .ok (.bipush 48, 2) := by decide +kernel
theorem dX11_copyList_128 : decode cX11_copyList 128 = .ok (.iload_n 1, 1) := by decide +kernel
theorem dX11_copyList_129 : decode cX11_copyList 129 = .ok (.imul, 1) := by decide +kernel
theorem dX11_copyList_130 : decode cX11_copyList 130 = .ok (.iload_n 3, 1) := by decide +kernel
theorem dX11_copyList_131 : decode cX11_copyList 131 = .ok (.iadd, 1) := by decide +kernel
theorem dX11_copyList_132 : decode cX11_copyList 132 = .ok (.iaload, 1) := by decide +kernel
theorem dX11_copyList_133 : decode cX11_copyList 133 = .ok (.iastore, 1) := by decide +kernel
theorem dX11_copyList_134 : decode cX11_copyList 134 = .ok (.aload_n 0, 1) := by decide +kernel
theorem dX11_copyList_135 : decode cX11_copyList 135 = .ok (.getfield 50, 3) := by decide +kernel
theorem dX11_copyList_138 : decode cX11_copyList 138 = .ok (.bipush 48, 2) := by decide +kernel
theorem dX11_copyList_140 : decode cX11_copyList 140 = .ok (.iload_n 2, 1) := by decide +kernel
theorem dX11_copyList_141 : decode cX11_copyList 141 = .ok (.imul, 1) := by decide +kernel
theorem dX11_copyList_142 : decode cX11_copyList 142 = .ok (.iload_n 3, 1) := by decide +kernel
theorem dX11_copyList_143 : decode cX11_copyList 143 = .ok (.iadd, 1) := by decide +kernel
theorem dX11_copyList_144 : decode cX11_copyList 144 = .ok (.aload_n 0, 1) := by decide +kernel
theorem dX11_copyList_145 : decode cX11_copyList 145 = .ok (.getfield 50, 3) := by decide +kernel
theorem dX11_copyList_148 : decode cX11_copyList 148 = .ok (.bipush 48, 2) := by decide +kernel
theorem dX11_copyList_150 : decode cX11_copyList 150 = .ok (.iload_n 1, 1) := by decide +kernel
theorem dX11_copyList_151 : decode cX11_copyList 151 = .ok (.imul, 1) := by decide +kernel
theorem dX11_copyList_152 : decode cX11_copyList 152 = .ok (.iload_n 3, 1) := by decide +kernel
theorem dX11_copyList_153 : decode cX11_copyList 153 = .ok (.iadd, 1) := by decide +kernel
theorem dX11_copyList_154 : decode cX11_copyList 154 = .ok (.iaload, 1) := by decide +kernel
theorem dX11_copyList_155 : decode cX11_copyList 155 = .ok (.iastore, 1) := by decide +kernel
theorem dX11_copyList_156 : decode cX11_copyList 156 = .ok (.iinc 3 1, 3) := by decide +kernel
theorem dX11_copyList_159 : decode cX11_copyList 159 = .ok (.goto (-53), 3) := by decide +kernel
theorem dX11_copyList_162 : decode cX11_copyList 162 = .ok (.iconst 0, 1) := by decide +kernel
theorem dX11_copyList_163 : decode cX11_copyList 163 = .ok (.istore_n 3, 1) := by decide +kernel
theorem dX11_copyList_164 : decode cX11_copyList 164 = .ok (.iload_n 3, 1) := by decide +kernel
theorem dX11_copyList_165 : decode cX11_copyList 165 = .ok (.bipush 64, 2) := by decide +kernel
theorem dX11_copyList_167 : decode cX11_copyList 167 = .ok (.if_icmp .ge 75, 3) := by decide +kernel
theorem dX11_copyList_170 : decode cX11_copyList 170 = .ok (.aload_n 0, 1) := by decide +kernel
theorem dX11_copyList_171 : decode cX11_copyList 171 = .ok (.getfield 56, 3) := by decide +kernel
theorem dX11_copyList_174 : decode cX11_copyList 174 = .ok (.bipush 64, 2) := by decide +kernel
theorem dX11_copyList_176 : decode cX11_copyList 176 = .ok (.iload_n 2, 1) := by decide +kernel
theorem dX11_copyList_177 : decode cX11_copyList 177 = .ok (.imul, 1) := by decide +kernel
theorem dX11_copyList_178 : decode cX11_copyList 178 = .ok (.iload_n 3, 1) := by decide +kernel
theorem dX11_copyList_179 : decode cX11_copyList 179 = .ok (.iadd, 1) := by decide +kernel
theorem dX11_copyList_180 : decode cX11_copyList 180 = .ok (.aload_n 0, 1) := by decide +kernel
theorem dX11_copyList_181 : decode cX11_copyList 181 = .ok (.getfield 56, 3) := by decide +kernel
theorem dX11_copyList_184 : decode cX11_copyList 184 = .ok (.bipush 64, 2) := by decide +kernel
theorem dX11_copyList_186 : decode cX11_copyList 186 = .ok (.iload_n 1, 1) := by decide +kernel
theorem dX11_copyList_187 : decode cX11_copyList 187 = .ok (.imul, 1) := by decide +kernel
theorem dX11_copyList_188 : decode cX11_copyList 188 = .ok (.iload_n 3, 1) := by decide +kernel
theorem dX11_copyList_189 : decode cX11_copyList 189 = .ok (.iadd, 1) := by decide +kernel
theorem dX11_copyList_190 : decode cX11_copyList 190 = .ok (.iaload, 1) := by decide +kernel
theorem dX11_copyList_191 : decode cX11_copyList 191 = .ok (.iastore, 1) := by decide +kernel
theorem dX11_copyList_192 : decode cX11_copyList 192 = .ok (.aload_n 0, 1) := by decide +kernel
theorem dX11_copyList_193 : decode cX11_copyList 193 = .ok (.getfield 59, 3) := by decide +kernel
theorem dX11_copyList_196 : decode cX11_copyList 196 = .ok (.bipush 64, 2) := by decide +kernel
theorem dX11_copyList_198 : decode cX11_copyList 198 = .ok (.iload_n 2, 1) := by decide +kernel
theorem dX11_copyList_199 : decode cX11_copyList 199 = .ok (.imul, 1) := by decide +kernel
theorem dX11_copyList_200 : decode cX11_copyList 200 = .ok (.iload_n 3, 1) := by decide +kernel
theorem dX11_copyList_201 : decode cX11_copyList 201 = .ok (.iadd, 1) := by decide +kernel
theorem dX11_copyList_202 : decode cX11_copyList 202 = .ok (.aload_n 0, 1) := by decide +kernel
theorem dX11_copyList_203 : decode cX11_copyList 203 = .ok (.getfield 59, 3) := by decide +kernel
theorem dX11_copyList_206 : decode cX11_copyList 206 = .ok (.bipush 64, 2) := by decide +kernel
theorem dX11_copyList_208 : decode cX11_copyList 208 = .ok (.iload_n 1, 1) := by decide +kernel
theorem dX11_copyList_209 : decode cX11_copyList 209 = .ok (.imul, 1) := by decide +kernel
theorem dX11_copyList_210 : decode cX11_copyList 210 = .ok (.iload_n 3, 1) := by decide +kernel
theorem dX11_copyList_211 : decode cX11_copyList 211 = .ok (.iadd, 1) := by decide +kernel
theorem dX11_copyList_212 : decode cX11_copyList 212 = .ok (.iaload, 1) := by decide +kernel
theorem dX11_copyList_213 : decode cX11_copyList 213 = .ok (.iastore, 1) := by decide +kernel
theorem dX11_copyList_214 : decode cX11_copyList 214 = .ok (.aload_n 0, 1) := by decide +kernel
theorem dX11_copyList_215 : decode cX11_copyList 215 = .ok (.getfield 62, 3) := by decide +kernel
theorem dX11_copyList_218 : decode cX11_copyList 218 = .ok (.bipush 64, 2) := by decide +kernel
theorem dX11_copyList_220 : decode cX11_copyList 220 = .ok (.iload_n 2, 1) := by decide +kernel
theorem dX11_copyList_221 : decode cX11_copyList 221 = .ok (.imul, 1) := by decide +kernel
theorem dX11_copyList_222 : decode cX11_copyList 222 = .ok (.iload_n 3, 1) := by decide +kernel
theorem dX11_copyList_223 : decode cX11_copyList 223 = .ok (.iadd, 1) := by decide +kernel
theorem dX11_copyList_224 : decode cX11_copyList 224 = .ok (.aload_n 0, 1) := by decide +kernel
theorem dX11_copyList_225 : decode cX11_copyList 225 = .ok (.getfield 62, 3) := by decide +kernel
theorem dX11_copyList_228 : decode cX11_copyList 228 = .ok (.bipush 64, 2) := by decide +kernel
theorem dX11_copyList_230 : decode cX11_copyList 230 = .ok (.iload_n 1, 1) := by decide +kernel
theorem dX11_copyList_231 : decode cX11_copyList 231 = .ok (.imul, 1) := by decide +kernel
theorem dX11_copyList_232 : decode cX11_copyList 232 = .ok (.iload_n 3, 1) := by decide +kernel
theorem dX11_copyList_233 : decode cX11_copyList 233 = .ok (.iadd, 1) := by decide +kernel
theorem dX11_copyList_234 : decode cX11_copyList 234 = .ok (.iaload, 1) := by decide +kernel
theorem dX11_copyList_235 : decode cX11_copyList 235 = .ok (.iastore, 1) := by decide +kernel
theorem dX11_copyList_236 : decode cX11_copyList 236 = .ok (.iinc 3 1, 3) := by decide +kernel
theorem dX11_copyList_239 : decode cX11_copyList 239 = .ok (.goto (-75), 3) := by decide +kernel
theorem dX11_copyList_242 : decode cX11_copyList 242 = .ok (.return_, 1) := by decide +kernel
def LX11_copyList_26 (c1 : Int) (c2 : Int) (k104 : Mem → Option Res) : Nat → Int → Mem → Option Res
  | 0 => fun _ _ => none
  | n + 1 => fun x3 s => (if 16 ≤ x3 then
 k104 s
 else
 rd (s 108) (wr ((wr (16 * c1)) + x3)) 64 (fun v5 =>
 ST s 108 (wr ((wr (16 * c2)) + x3)) 64 v5 (fun s6 =>
 rd (s6 110) (wr ((wr (16 * c1)) + x3)) 64 (fun v7 =>
 ST s6 110 (wr ((wr (16 * c2)) + x3)) 64 v7 (fun s8 =>
 rd (s8 112) (wr ((wr (16 * c1)) + x3)) 64 (fun v9 =>
 ST s8 112 (wr ((wr (16 * c2)) + x3)) 64 v9 (fun s10 =>
 LX11_copyList_26 c1 c2 k104 n (wr (x3 + 1)) s10)))))))
def LX11_copyList_106 (c1 : Int) (c2 : Int) (k162 : Mem → Option Res) : Nat → Int → Mem → Option Res
  | 0 => fun _ _ => none
  | n + 1 => fun x3 s => (if 48 ≤ x3 then
 k162 s
 else
 rd (s 109) (wr ((wr (48 * c1)) + x3)) 192 (fun v12 =>
 ST s 109 (wr ((wr (48 * c2)) + x3)) 192 v12 (fun s13 =>
 rd (s13 111) (wr ((wr (48 * c1)) + x3)) 192 (fun v14 =>
 ST s13 111 (wr ((wr (48 * c2)) + x3)) 192 v14 (fun s15 =>
 LX11_copyList_106 c1 c2 k162 n (wr (x3 + 1)) s15)))))
def LX11_copyList_164 (c1 : Int) (c2 : Int) (k242 : Mem → Option Res) : Nat → Int → Mem → Option Res
  | 0 => fun _ _ => none
  | n + 1 => fun x3 s => (if 64 ≤ x3 then
 k242 s
 else
 rd (s 113) (wr ((wr (64 * c1)) + x3)) 256 (fun v17 =>
 ST s 113 (wr ((wr (64 * c2)) + x3)) 256 v17 (fun s18 =>
 rd (s18 114) (wr ((wr (64 * c1)) + x3)) 256 (fun v19 =>
 ST s18 114 (wr ((wr (64 * c2)) + x3)) 256 v19 (fun s20 =>
 rd (s20 115) (wr ((wr (64 * c1)) + x3)) 256 (fun v21 =>
 ST s20 115 (wr ((wr (64 * c2)) + x3)) 256 v21 (fun s22 =>
 LX11_copyList_164 c1 c2 k242 n (wr (x3 + 1)) s22)))))))
def fX11_copyList (a1 : Int) (a2 : Int) (s0 : Mem) : Option Res :=
 rd (s0 106) a1 4 (fun v1 =>
 ST s0 106 a2 4 v1 (fun s2 =>
 rd (s2 107) a1 4 (fun v3 =>
 ST s2 107 a2 4 v3 (fun s4 =>
 LX11_copyList_26 a1 a2 (fun s11 =>
 LX11_copyList_106 a1 a2 (fun s16 =>
 LX11_copyList_164 a1 a2 (fun s23 =>
 some (0, s23)) FU 0 s16) FU 0 s11) FU 0 s4))))
set_option maxRecDepth 100000 in
set_option maxHeartbeats 4000000 in
theorem jLX11_copyList_26 {K : KT} (hq : KV K none) (c1 : Int) (c2 : Int) (k104 : Mem → Option Res) (hk104 : ∀ (s : Mem), J K rmX11_copyList cX11_copyList RX11 4 104 [some (.inr (.inr 100)), some (.inl c1), some (.inl c2), none] [] s (k104 s)) : ∀ (n : Nat) (x3 : Int) (s : Mem), J K rmX11_copyList cX11_copyList RX11 4 26 [some (.inr (.inr 100)), some (.inl c1), some (.inl c2), some (.inl x3)] [] s (LX11_copyList_26 c1 c2 k104 n x3 s) := by
  intro n
  induction n with
  | zero => intros; exact J_none
  | succ n ih =>
    intro x3 s
    show J K _ _ _ _ _ _ _ _ (LX11_copyList_26 c1 c2 k104 (n + 1) x3 s)
    simp only [LX11_copyList_26]
    refine j_iload_n dX11_copyList_26 rfl rfl ?_
    refine j_bipush (v := 16) dX11_copyList_27 (by decide +kernel) (inr_d rfl) ?_
    refine j_icmp_ge (tgt := 104) dX11_copyList_29 rfl ?_ ?_
    · exact j_msk [true, true, true, false] (hk104 _)
    · refine j_aload_n dX11_copyList_32 rfl rfl ?_
      refine j_getR fl_RX11_41 sh_100 rfl dX11_copyList_33 ?_
      refine j_bipush (v := 16) dX11_copyList_36 (by decide +kernel) (inr_d rfl) ?_
      refine j_iload_n dX11_copyList_38 rfl rfl ?_
      refine j_imul dX11_copyList_39 ?_
      refine j_iload_n dX11_copyList_40 rfl rfl ?_
      refine j_iadd dX11_copyList_41 ?_
      refine j_aload_n dX11_copyList_42 rfl rfl ?_
      refine j_getR fl_RX11_41 sh_100 rfl dX11_copyList_43 ?_
      refine j_bipush (v := 16) dX11_copyList_46 (by decide +kernel) (inr_d rfl) ?_
      refine j_iload_n dX11_copyList_48 rfl rfl ?_
      refine j_imul dX11_copyList_49 ?_
      refine j_iload_n dX11_copyList_50 rfl rfl ?_
      refine j_iadd dX11_copyList_51 ?_
      refine j_iald sh_108 dX11_copyList_52 (fun v5 => ?_)
      refine j_iast sh_108 dX11_copyList_53 (fun s6 => ?_)
      refine j_aload_n dX11_copyList_54 rfl rfl ?_
      refine j_getR fl_RX11_47 sh_100 rfl dX11_copyList_55 ?_
      refine j_bipush (v := 16) dX11_copyList_58 (by decide +kernel) (inr_d rfl) ?_
      refine j_iload_n dX11_copyList_60 rfl rfl ?_
      refine j_imul dX11_copyList_61 ?_
      refine j_iload_n dX11_copyList_62 rfl rfl ?_
      refine j_iadd dX11_copyList_63 ?_
      refine j_aload_n dX11_copyList_64 rfl rfl ?_
      refine j_getR fl_RX11_47 sh_100 rfl dX11_copyList_65 ?_
      refine j_bipush (v := 16) dX11_copyList_68 (by decide +kernel) (inr_d rfl) ?_
      refine j_iload_n dX11_copyList_70 rfl rfl ?_
      refine j_imul dX11_copyList_71 ?_
      refine j_iload_n dX11_copyList_72 rfl rfl ?_
      refine j_iadd dX11_copyList_73 ?_
      refine j_iald sh_110 dX11_copyList_74 (fun v7 => ?_)
      refine j_iast sh_110 dX11_copyList_75 (fun s8 => ?_)
      refine j_aload_n dX11_copyList_76 rfl rfl ?_
      refine j_getR fl_RX11_53 sh_100 rfl dX11_copyList_77 ?_
      refine j_bipush (v := 16) dX11_copyList_80 (by decide +kernel) (inr_d rfl) ?_
      refine j_iload_n dX11_copyList_82 rfl rfl ?_
      refine j_imul dX11_copyList_83 ?_
      refine j_iload_n dX11_copyList_84 rfl rfl ?_
      refine j_iadd dX11_copyList_85 ?_
      refine j_aload_n dX11_copyList_86 rfl rfl ?_
      refine j_getR fl_RX11_53 sh_100 rfl dX11_copyList_87 ?_
      refine j_bipush (v := 16) dX11_copyList_90 (by decide +kernel) (inr_d rfl) ?_
      refine j_iload_n dX11_copyList_92 rfl rfl ?_
      refine j_imul dX11_copyList_93 ?_
      refine j_iload_n dX11_copyList_94 rfl rfl ?_
      refine j_iadd dX11_copyList_95 ?_
      refine j_iald sh_112 dX11_copyList_96 (fun v9 => ?_)
      refine j_iast sh_112 dX11_copyList_97 (fun s10 => ?_)
      refine j_iincE (ls2 := [some (.inr (.inr 100)), some (.inl c1), some (.inl c2), some (.inl (wr (x3 + 1)))]) dX11_copyList_98 rfl (by decide) rfl rfl ?_
      refine j_goto (tgt := 26) dX11_copyList_101 rfl ?_
      exact j_msk [true, true, true, true] (ih _ _)
set_option maxRecDepth 100000 in
set_option maxHeartbeats 4000000 in
theorem jLX11_copyList_106 {K : KT} (hq : KV K none) (c1 : Int) (c2 : Int) (k162 : Mem → Option Res) (hk162 : ∀ (s : Mem), J K rmX11_copyList cX11_copyList RX11 4 162 [some (.inr (.inr 100)), some (.inl c1), some (.inl c2), none] [] s (k162 s)) : ∀ (n : Nat) (x3 : Int) (s : Mem), J K rmX11_copyList cX11_copyList RX11 4 106 [some (.inr (.inr 100)), some (.inl c1), some (.inl c2), some (.inl x3)] [] s (LX11_copyList_106 c1 c2 k162 n x3 s) := by
  intro n
  induction n with
  | zero => intros; exact J_none
  | succ n ih =>
    intro x3 s
    show J K _ _ _ _ _ _ _ _ (LX11_copyList_106 c1 c2 k162 (n + 1) x3 s)
    simp only [LX11_copyList_106]
    refine j_iload_n dX11_copyList_106 rfl rfl ?_
    refine j_bipush (v := 48) dX11_copyList_107 (by decide +kernel) (inr_d rfl) ?_
    refine j_icmp_ge (tgt := 162) dX11_copyList_109 rfl ?_ ?_
    · exact j_msk [true, true, true, false] (hk162 _)
    · refine j_aload_n dX11_copyList_112 rfl rfl ?_
      refine j_getR fl_RX11_44 sh_100 rfl dX11_copyList_113 ?_
      refine j_bipush (v := 48) dX11_copyList_116 (by decide +kernel) (inr_d rfl) ?_
      refine j_iload_n dX11_copyList_118 rfl rfl ?_
      refine j_imul dX11_copyList_119 ?_
      refine j_iload_n dX11_copyList_120 rfl rfl ?_
      refine j_iadd dX11_copyList_121 ?_
      refine j_aload_n dX11_copyList_122 rfl rfl ?_
      refine j_getR fl_RX11_44 sh_100 rfl dX11_copyList_123 ?_
      refine j_bipush (v := 48) dX11_copyList_126 (by decide +kernel) (inr_d rfl) ?_
      refine j_iload_n dX11_copyList_128 rfl rfl ?_
      refine j_imul dX11_copyList_129 ?_
      refine j_iload_n dX11_copyList_130 rfl rfl ?_
      refine j_iadd dX11_copyList_131 ?_
      refine j_iald sh_109 dX11_copyList_132 (fun v12 => ?_)
      refine j_iast sh_109 dX11_copyList_133 (fun s13 => ?_)
      refine j_aload_n dX11_copyList_134 rfl rfl ?_
      refine j_getR fl_RX11_50 sh_100 rfl dX11_copyList_135 ?_
      refine j_bipush (v := 48) dX11_copyList_138 (by decide +kernel) (inr_d rfl) ?_
      refine j_iload_n dX11_copyList_140 rfl rfl ?_
      refine j_imul dX11_copyList_141 ?_
      refine j_iload_n dX11_copyList_142 rfl rfl ?_
      refine j_iadd dX11_copyList_143 ?_
      refine j_aload_n dX11_copyList_144 rfl rfl ?_
      refine j_getR fl_RX11_50 sh_100 rfl dX11_copyList_145 ?_
      refine j_bipush (v := 48) dX11_copyList_148 (by decide +kernel) (inr_d rfl) ?_
      refine j_iload_n dX11_copyList_150 rfl rfl ?_
      refine j_imul dX11_copyList_151 ?_
      refine j_iload_n dX11_copyList_152 rfl rfl ?_
      refine j_iadd dX11_copyList_153 ?_
      refine j_iald sh_111 dX11_copyList_154 (fun v14 => ?_)
      refine j_iast sh_111 dX11_copyList_155 (fun s15 => ?_)
      refine j_iincE (ls2 := [some (.inr (.inr 100)), some (.inl c1), some (.inl c2), some (.inl (wr (x3 + 1)))]) dX11_copyList_156 rfl (by decide) rfl rfl ?_
      refine j_goto (tgt := 106) dX11_copyList_159 rfl ?_
      exact j_msk [true, true, true, true] (ih _ _)
set_option maxRecDepth 100000 in
set_option maxHeartbeats 4000000 in
theorem jLX11_copyList_164 {K : KT} (hq : KV K none) (c1 : Int) (c2 : Int) (k242 : Mem → Option Res) (hk242 : ∀ (s : Mem), J K rmX11_copyList cX11_copyList RX11 4 242 [none, none, none, none] [] s (k242 s)) : ∀ (n : Nat) (x3 : Int) (s : Mem), J K rmX11_copyList cX11_copyList RX11 4 164 [some (.inr (.inr 100)), some (.inl c1), some (.inl c2), some (.inl x3)] [] s (LX11_copyList_164 c1 c2 k242 n x3 s) := by
  intro n
  induction n with
  | zero => intros; exact J_none
  | succ n ih =>
    intro x3 s
    show J K _ _ _ _ _ _ _ _ (LX11_copyList_164 c1 c2 k242 (n + 1) x3 s)
    simp only [LX11_copyList_164]
    refine j_iload_n dX11_copyList_164 rfl rfl ?_
    refine j_bipush (v := 64) dX11_copyList_165 (by decide +kernel) (inr_d rfl) ?_
    refine j_icmp_ge (tgt := 242) dX11_copyList_167 rfl ?_ ?_
    · exact j_msk [false, false, false, false] (hk242 _)
    · refine j_aload_n dX11_copyList_170 rfl rfl ?_
      refine j_getR fl_RX11_56 sh_100 rfl dX11_copyList_171 ?_
      refine j_bipush (v := 64) dX11_copyList_174 (by decide +kernel) (inr_d rfl) ?_
      refine j_iload_n dX11_copyList_176 rfl rfl ?_
      refine j_imul dX11_copyList_177 ?_
      refine j_iload_n dX11_copyList_178 rfl rfl ?_
      refine j_iadd dX11_copyList_179 ?_
      refine j_aload_n dX11_copyList_180 rfl rfl ?_
      refine j_getR fl_RX11_56 sh_100 rfl dX11_copyList_181 ?_
      refine j_bipush (v := 64) dX11_copyList_184 (by decide +kernel) (inr_d rfl) ?_
      refine j_iload_n dX11_copyList_186 rfl rfl ?_
      refine j_imul dX11_copyList_187 ?_
      refine j_iload_n dX11_copyList_188 rfl rfl ?_
      refine j_iadd dX11_copyList_189 ?_
      refine j_iald sh_113 dX11_copyList_190 (fun v17 => ?_)
      refine j_iast sh_113 dX11_copyList_191 (fun s18 => ?_)
      refine j_aload_n dX11_copyList_192 rfl rfl ?_
      refine j_getR fl_RX11_59 sh_100 rfl dX11_copyList_193 ?_
      refine j_bipush (v := 64) dX11_copyList_196 (by decide +kernel) (inr_d rfl) ?_
      refine j_iload_n dX11_copyList_198 rfl rfl ?_
      refine j_imul dX11_copyList_199 ?_
      refine j_iload_n dX11_copyList_200 rfl rfl ?_
      refine j_iadd dX11_copyList_201 ?_
      refine j_aload_n dX11_copyList_202 rfl rfl ?_
      refine j_getR fl_RX11_59 sh_100 rfl dX11_copyList_203 ?_
      refine j_bipush (v := 64) dX11_copyList_206 (by decide +kernel) (inr_d rfl) ?_
      refine j_iload_n dX11_copyList_208 rfl rfl ?_
      refine j_imul dX11_copyList_209 ?_
      refine j_iload_n dX11_copyList_210 rfl rfl ?_
      refine j_iadd dX11_copyList_211 ?_
      refine j_iald sh_114 dX11_copyList_212 (fun v19 => ?_)
      refine j_iast sh_114 dX11_copyList_213 (fun s20 => ?_)
      refine j_aload_n dX11_copyList_214 rfl rfl ?_
      refine j_getR fl_RX11_62 sh_100 rfl dX11_copyList_215 ?_
      refine j_bipush (v := 64) dX11_copyList_218 (by decide +kernel) (inr_d rfl) ?_
      refine j_iload_n dX11_copyList_220 rfl rfl ?_
      refine j_imul dX11_copyList_221 ?_
      refine j_iload_n dX11_copyList_222 rfl rfl ?_
      refine j_iadd dX11_copyList_223 ?_
      refine j_aload_n dX11_copyList_224 rfl rfl ?_
      refine j_getR fl_RX11_62 sh_100 rfl dX11_copyList_225 ?_
      refine j_bipush (v := 64) dX11_copyList_228 (by decide +kernel) (inr_d rfl) ?_
      refine j_iload_n dX11_copyList_230 rfl rfl ?_
      refine j_imul dX11_copyList_231 ?_
      refine j_iload_n dX11_copyList_232 rfl rfl ?_
      refine j_iadd dX11_copyList_233 ?_
      refine j_iald sh_115 dX11_copyList_234 (fun v21 => ?_)
      refine j_iast sh_115 dX11_copyList_235 (fun s22 => ?_)
      refine j_iincE (ls2 := [some (.inr (.inr 100)), some (.inl c1), some (.inl c2), some (.inl (wr (x3 + 1)))]) dX11_copyList_236 rfl (by decide) rfl rfl ?_
      refine j_goto (tgt := 164) dX11_copyList_239 rfl ?_
      exact j_msk [true, true, true, true] (ih _ _)
set_option maxRecDepth 100000 in
set_option maxHeartbeats 4000000 in
theorem mX11_copyList (l : Launch) (D : va_G) (ad : Nat → Nat) (cA : Nat → ClassId) (a1 : Int) (a2 : Int) (s0 : Mem) : MCv l D ad cA yX11_copyList cX11_copyList 4 none rmX11_copyList [.inr (.inr 100), .inl a1, .inl a2] s0 (fX11_copyList a1 a2 s0) := by
  refine MCv_ofE (own := RX11) (ls := [some (.inr (.inr 100)), some (.inl a1), some (.inl a2), none]) 1 (by decide +kernel) rfl rfl (fun _ => Nat.le_of_ble_eq_true rfl) (fun K hq => ?_)
  unfold fX11_copyList
  refine j_aload_n dX11_copyList_0 rfl rfl ?_
  refine j_getR fl_RX11_35 sh_100 rfl dX11_copyList_1 ?_
  refine j_iload_n dX11_copyList_4 rfl rfl ?_
  refine j_aload_n dX11_copyList_5 rfl rfl ?_
  refine j_getR fl_RX11_35 sh_100 rfl dX11_copyList_6 ?_
  refine j_iload_n dX11_copyList_9 rfl rfl ?_
  refine j_iald sh_106 dX11_copyList_10 (fun v1 => ?_)
  refine j_iast sh_106 dX11_copyList_11 (fun s2 => ?_)
  refine j_aload_n dX11_copyList_12 rfl rfl ?_
  refine j_getR fl_RX11_38 sh_100 rfl dX11_copyList_13 ?_
  refine j_iload_n dX11_copyList_16 rfl rfl ?_
  refine j_aload_n dX11_copyList_17 rfl rfl ?_
  refine j_getR fl_RX11_38 sh_100 rfl dX11_copyList_18 ?_
  refine j_iload_n dX11_copyList_21 rfl rfl ?_
  refine j_iald sh_107 dX11_copyList_22 (fun v3 => ?_)
  refine j_iast sh_107 dX11_copyList_23 (fun s4 => ?_)
  refine j_iconst dX11_copyList_24 (inr_d rfl) ?_
  refine j_istore_nE (ls2 := [some (.inr (.inr 100)), some (.inl a1), some (.inl a2), some (.inl 0)]) dX11_copyList_25 rfl (by decide) rfl rfl ?_
  refine j_msk [true, true, true, true] (jLX11_copyList_26 hq _ _ _ (fun s11 => ?_) _ _ _)
  refine j_iconst dX11_copyList_104 (inr_d rfl) ?_
  refine j_istore_nE (ls2 := [some (.inr (.inr 100)), some (.inl a1), some (.inl a2), some (.inl 0)]) dX11_copyList_105 rfl (by decide) rfl rfl ?_
  refine j_msk [true, true, true, true] (jLX11_copyList_106 hq _ _ _ (fun s16 => ?_) _ _ _)
  refine j_iconst dX11_copyList_162 (inr_d rfl) ?_
  refine j_istore_nE (ls2 := [some (.inr (.inr 100)), some (.inl a1), some (.inl a2), some (.inl 0)]) dX11_copyList_163 rfl (by decide) rfl rfl ?_
  refine j_msk [true, true, true, true] (jLX11_copyList_164 hq _ _ _ (fun s23 => ?_) _ _ _)
  exact j_vret hq dX11_copyList_242
abbrev rmX11_frameMany : Room := { frames := 0, cells := 0, slots := 0, locals := 0 }
theorem dX11_frameMany_0 : decode cX11_frameMany 0 = .ok (.iconst 0, 1) := by decide +kernel
theorem dX11_frameMany_1 : decode cX11_frameMany 1 = .ok (.istore_n 1, 1) := by decide +kernel
theorem dX11_frameMany_2 : decode cX11_frameMany 2 = .ok (.iconst 0, 1) := by decide +kernel
theorem dX11_frameMany_3 : decode cX11_frameMany 3 = .ok (.istore_n 2, 1) := by decide +kernel
theorem dX11_frameMany_4 : decode cX11_frameMany 4 = .ok (.iload_n 2, 1) := by decide +kernel
theorem dX11_frameMany_5 : decode cX11_frameMany 5 = .ok (.aload_n 0, 1) := by decide +kernel
theorem dX11_frameMany_6 : decode cX11_frameMany 6 = .ok (.getfield 35, 3) := by decide +kernel
theorem dX11_frameMany_9 : decode cX11_frameMany 9 = .ok (.iconst 1, 1) := by decide +kernel
theorem dX11_frameMany_10 : decode cX11_frameMany 10 = .ok (.iaload, 1) := by decide +kernel
theorem dX11_frameMany_11 : decode cX11_frameMany 11 = .ok (.if_icmp .ge 21, 3) := by decide +kernel
theorem dX11_frameMany_14 : decode cX11_frameMany 14 = .ok (.iload_n 1, 1) := by decide +kernel
theorem dX11_frameMany_15 : decode cX11_frameMany 15 = .ok (.aload_n 0, 1) := by decide +kernel
theorem dX11_frameMany_16 : decode cX11_frameMany 16 = .ok (.getfield 41, 3) := by decide +kernel
theorem dX11_frameMany_19 : decode cX11_frameMany 19 = .ok (.bipush 16, 2) := by decide +kernel
theorem dX11_frameMany_21 : decode cX11_frameMany 21 = .ok (.iload_n 2, 1) := by decide +kernel
theorem dX11_frameMany_22 : decode cX11_frameMany 22 = .ok (.iadd, 1) := by decide +kernel
theorem dX11_frameMany_23 : decode cX11_frameMany 23 = .ok (.iaload, 1) := by decide +kernel
theorem dX11_frameMany_24 : decode cX11_frameMany 24 = .ok (.iadd, 1) := by decide +kernel
theorem dX11_frameMany_25 : decode cX11_frameMany 25 = .ok (.istore_n 1, 1) := by decide +kernel
theorem dX11_frameMany_26 : decode cX11_frameMany 26 = .ok (.iinc 2 1, 3) := by decide +kernel
theorem dX11_frameMany_29 : decode cX11_frameMany 29 = .ok (.goto (-25), 3) := by decide +kernel
theorem dX11_frameMany_32 : decode cX11_frameMany 32 = .ok (.iload_n 1, 1) := by decide +kernel
theorem dX11_frameMany_33 : decode cX11_frameMany 33 = .ok (.ireturn, 1) := by decide +kernel
def LX11_frameMany_4 (k32 : Int → Mem → Option Res) : Nat → Int → Int → Mem → Option Res
  | 0 => fun _ _ _ => none
  | n + 1 => fun x1 x2 s => rd (s 106) 1 4 (fun v1 =>
 (if v1 ≤ x2 then
 k32 x1 s
 else
 rd (s 108) (wr (16 + x2)) 64 (fun v2 =>
 lt (wr (x1 + v2)) (fun v3 =>
 LX11_frameMany_4 k32 n v3 (wr (x2 + 1)) s))))
def fX11_frameMany (s0 : Mem) : Option Res :=
 LX11_frameMany_4 (fun y5 s4 =>
 some (y5, s4)) FU 0 0 s0
set_option maxRecDepth 100000 in
set_option maxHeartbeats 4000000 in
theorem jLX11_frameMany_4 {K : KT} (hq : KI K (some .int)) (k32 : Int → Mem → Option Res) (hk32 : ∀ (y1 : Int) (s : Mem), J K rmX11_frameMany cX11_frameMany RX11 3 32 [none, some (.inl y1), none] [] s (k32 y1 s)) : ∀ (n : Nat) (x1 : Int) (x2 : Int) (s : Mem), J K rmX11_frameMany cX11_frameMany RX11 3 4 [some (.inr (.inr 100)), some (.inl x1), some (.inl x2)] [] s (LX11_frameMany_4 k32 n x1 x2 s) := by
  intro n
  induction n with
  | zero => intros; exact J_none
  | succ n ih =>
    intro x1 x2 s
    show J K _ _ _ _ _ _ _ _ (LX11_frameMany_4 k32 (n + 1) x1 x2 s)
    simp only [LX11_frameMany_4]
    refine j_iload_n dX11_frameMany_4 rfl rfl ?_
    refine j_aload_n dX11_frameMany_5 rfl rfl ?_
    refine j_getR fl_RX11_35 sh_100 rfl dX11_frameMany_6 ?_
    refine j_iconst dX11_frameMany_9 (inr_d rfl) ?_
    refine j_iald sh_106 dX11_frameMany_10 (fun v1 => ?_)
    refine j_icmp_ge (tgt := 32) dX11_frameMany_11 rfl ?_ ?_
    · exact j_msk [false, true, false] (hk32 _ _)
    · refine j_iload_n dX11_frameMany_14 rfl rfl ?_
      refine j_aload_n dX11_frameMany_15 rfl rfl ?_
      refine j_getR fl_RX11_41 sh_100 rfl dX11_frameMany_16 ?_
      refine j_bipush (v := 16) dX11_frameMany_19 (by decide +kernel) (inr_d rfl) ?_
      refine j_iload_n dX11_frameMany_21 rfl rfl ?_
      refine j_iadd dX11_frameMany_22 ?_
      refine j_iald sh_108 dX11_frameMany_23 (fun v2 => ?_)
      refine j_iadd dX11_frameMany_24 ?_
      refine j_ltv (fun v3 => ?_)
      refine j_istore_nE (ls2 := [some (.inr (.inr 100)), some (.inl v3), some (.inl x2)]) dX11_frameMany_25 rfl (by decide) rfl rfl ?_
      refine j_iincE (ls2 := [some (.inr (.inr 100)), some (.inl v3), some (.inl (wr (x2 + 1)))]) dX11_frameMany_26 rfl (by decide) rfl rfl ?_
      refine j_goto (tgt := 4) dX11_frameMany_29 rfl ?_
      exact j_msk [true, true, true] (ih _ _ _)
set_option maxRecDepth 100000 in
set_option maxHeartbeats 4000000 in
theorem mX11_frameMany (l : Launch) (D : va_G) (ad : Nat → Nat) (cA : Nat → ClassId) (s0 : Mem) : MCi l D ad cA yX11_frameMany cX11_frameMany 3 (some .int) rmX11_frameMany [.inr (.inr 100)] s0 (fX11_frameMany s0) := by
  refine MCi_ofE (own := RX11) (ls := [some (.inr (.inr 100)), none, none]) 2 (by decide +kernel) rfl rfl (fun _ => Nat.le_of_ble_eq_true rfl) (fun K hq => ?_)
  unfold fX11_frameMany
  refine j_iconst dX11_frameMany_0 (inr_d rfl) ?_
  refine j_istore_nE (ls2 := [some (.inr (.inr 100)), some (.inl 0), none]) dX11_frameMany_1 rfl (by decide) rfl rfl ?_
  refine j_iconst dX11_frameMany_2 (inr_d rfl) ?_
  refine j_istore_nE (ls2 := [some (.inr (.inr 100)), some (.inl 0), some (.inl 0)]) dX11_frameMany_3 rfl (by decide) rfl rfl ?_
  refine j_msk [true, true, true] (jLX11_frameMany_4 hq _ (fun y5 s4 => ?_) _ _ _ _)
  refine j_iload_n dX11_frameMany_32 rfl rfl ?_
  exact j_iret hq dX11_frameMany_33
abbrev rmX11_load : Room := { frames := 4, cells := 0, slots := 0, locals := 91 }
theorem dX11_load_0 : decode cX11_load 0 = .ok (.aload_n 0, 1) := by decide +kernel
theorem dX11_load_1 : decode cX11_load 1 = .ok (.invokevirtual 184, 3) := by decide +kernel
theorem dX11_load_4 : decode cX11_load 4 = .ok (.bipush (-4), 2) := by decide +kernel
theorem dX11_load_6 : decode cX11_load 6 = .ok (.if_icmp .ne 12, 3) := by decide +kernel
theorem dX11_load_9 : decode cX11_load 9 = .ok (.aload_n 0, 1) := by decide +kernel
theorem dX11_load_10 : decode cX11_load 10 = .ok (.getfield 35, 3) := by decide +kernel
theorem dX11_load_13 : decode cX11_load 13 = .ok (.iconst 0, 1) := by decide +kernel
theorem dX11_load_14 : decode cX11_load 14 = .ok (.iaload, 1) := by decide +kernel
theorem dX11_load_15 : decode cX11_load 15 = .ok (.ifCond .ne 6, 3) := by decide +kernel
theorem dX11_load_18 : decode cX11_load 18 = .ok (.bipush (-2), 2) := by decide +kernel
theorem dX11_load_20 : decode cX11_load 20 = .ok (.ireturn, 1) := by decide +kernel
theorem dX11_load_21 : decode cX11_load 21 = .ok (.aload_n 0, 1) := by decide +kernel
theorem dX11_load_22 : decode cX11_load 22 = .ok (.iconst 0, 1) := by decide +kernel
theorem dX11_load_23 : decode cX11_load 23 = .ok (.iconst 1, 1) := by decide +kernel
theorem dX11_load_24 : decode cX11_load 24 = .ok (.invokevirtual 188, 3) := by decide +kernel
theorem dX11_load_27 : decode cX11_load 27 = .ok (.aload_n 0, 1) := by decide +kernel
theorem dX11_load_28 : decode cX11_load 28 = .ok (.iconst 1, 1) := by decide +kernel
theorem dX11_load_29 : decode cX11_load 29 = .ok (.putfield 191, 3) := by decide +kernel
theorem dX11_load_32 : decode cX11_load 32 = .ok (.iconst 0, 1) := by decide +kernel
theorem dX11_load_33 : decode cX11_load 33 = .ok (.istore_n 1, 1) := by decide +kernel
theorem dX11_load_34 : decode cX11_load 34 = .ok (.iload_n 1, 1) := by decide +kernel
theorem dX11_load_35 : decode cX11_load 35 = .ok (.bipush 16, 2) := by decide +kernel
theorem dX11_load_37 : decode cX11_load 37 = .ok (.if_icmp .ge 17, 3) := by decide +kernel
theorem dX11_load_40 : decode cX11_load 40 = .ok (.aload_n 0, 1) := by decide +kernel
theorem dX11_load_41 : decode cX11_load 41 = .ok (.getfield 89, 3) := by decide +kernel
theorem dX11_load_44 : decode cX11_load 44 = .ok (.iload_n 1, 1) := by decide +kernel
theorem dX11_load_45 : decode cX11_load 45 = .ok (.bipush 100, 2) := by decide +kernel
theorem dX11_load_47 : decode cX11_load 47 = .ok (.iastore, 1) := by decide +kernel
theorem dX11_load_48 : decode cX11_load 48 = .ok (.iinc 1 1, 3) := by decide +kernel
theorem dX11_load_51 : decode cX11_load 51 = .ok (.goto (-17), 3) := by decide +kernel
theorem dX11_load_54 : decode cX11_load 54 = .ok (.aload_n 0, 1) := by decide +kernel
theorem dX11_load_55 : decode cX11_load 55 = .ok (.invokevirtual 195, 3) := by decide +kernel
theorem dX11_load_58 : decode cX11_load 58 = .ok (.ireturn, 1) := by decide +kernel
def LX11_load_34 (k54 : Mem → Option Res) : Nat → Int → Mem → Option Res
  | 0 => fun _ _ => none
  | n + 1 => fun x1 s => (if 16 ≤ x1 then
 k54 s
 else
 ST s 124 x1 48 100 (fun s7 =>
 LX11_load_34 k54 n (wr (x1 + 1)) s7))
def fX11_load (s0 : Mem) : Option Res :=
 bnd (fX11_readAll s0) (fun r1 s2 =>
 (if r1 ≠ (-4) then
 some ((-2), s2)
 else
 rd (s2 106) 0 4 (fun v3 =>
 (if v3 ≠ 0 then
 bnd (fX11_copyList 0 1 s2) (fun _ s5 =>
 zp 1 (lt (up s5 100 19 1) (fun s6 =>
 LX11_load_34 (fun s8 =>
 bnd (fX11_frameMany s8) (fun r9 s10 =>
 some (r9, s10))) FU 0 s6)))
 else
 some ((-2), s2)))))
set_option maxRecDepth 100000 in
set_option maxHeartbeats 4000000 in
theorem jLX11_load_34 {K : KT} (hq : KI K (some .int)) (k54 : Mem → Option Res) (hk54 : ∀ (s : Mem), J K rmX11_load cX11_load RX11 2 54 [some (.inr (.inr 100)), none] [] s (k54 s)) : ∀ (n : Nat) (x1 : Int) (s : Mem), J K rmX11_load cX11_load RX11 2 34 [some (.inr (.inr 100)), some (.inl x1)] [] s (LX11_load_34 k54 n x1 s) := by
  intro n
  induction n with
  | zero => intros; exact J_none
  | succ n ih =>
    intro x1 s
    show J K _ _ _ _ _ _ _ _ (LX11_load_34 k54 (n + 1) x1 s)
    simp only [LX11_load_34]
    refine j_iload_n dX11_load_34 rfl rfl ?_
    refine j_bipush (v := 16) dX11_load_35 (by decide +kernel) (inr_d rfl) ?_
    refine j_icmp_ge (tgt := 54) dX11_load_37 rfl ?_ ?_
    · exact j_msk [true, false] (hk54 _)
    · refine j_aload_n dX11_load_40 rfl rfl ?_
      refine j_getR fl_RX11_89 sh_100 rfl dX11_load_41 ?_
      refine j_iload_n dX11_load_44 rfl rfl ?_
      refine j_bipush (v := 100) dX11_load_45 (by decide +kernel) (inr_d rfl) ?_
      refine j_iast sh_124 dX11_load_47 (fun s7 => ?_)
      refine j_iincE (ls2 := [some (.inr (.inr 100)), some (.inl (wr (x1 + 1)))]) dX11_load_48 rfl (by decide) rfl rfl ?_
      refine j_goto (tgt := 34) dX11_load_51 rfl ?_
      exact j_msk [true, true] (ih _ _)
set_option maxRecDepth 100000 in
set_option maxHeartbeats 4000000 in
theorem mX11_load (l : Launch) (D : va_G) (ad : Nat → Nat) (cA : Nat → ClassId) (s0 : Mem) : MCi l D ad cA yX11_load cX11_load 2 (some .int) rmX11_load [.inr (.inr 100)] s0 (fX11_load s0) := by
  refine MCi_ofE (own := RX11) (ls := [some (.inr (.inr 100)), none]) 1 (by decide +kernel) rfl rfl (fun _ => Nat.le_of_ble_eq_true rfl) (fun K hq => ?_)
  unfold fX11_load
  refine j_aload_n dX11_load_0 rfl rfl ?_
  refine j_callVi (mX11_readAll (kl K) (kD K) (kad K) (kcA K) s0) cw_RX11_184 sh_100 rfl ⟨rfl, rfl, by decide, by decide⟩ rfl rfl (Nat.le_of_ble_eq_true rfl) dX11_load_1 (fun r1 s2 => ?_)
  refine j_bipush (v := (-4)) dX11_load_4 (by decide +kernel) (inr_d rfl) ?_
  refine j_icmp_ne (tgt := 18) dX11_load_6 rfl ?_ ?_
  · refine j_bipush (v := (-2)) dX11_load_18 (by decide +kernel) (inr_d rfl) ?_
    exact j_iret hq dX11_load_20
  · refine j_aload_n dX11_load_9 rfl rfl ?_
    refine j_getR fl_RX11_35 sh_100 rfl dX11_load_10 ?_
    refine j_iconst dX11_load_13 (inr_d rfl) ?_
    refine j_iald sh_106 dX11_load_14 (fun v3 => ?_)
    refine j_if_ne (tgt := 21) dX11_load_15 rfl ?_ ?_
    · refine j_aload_n dX11_load_21 rfl rfl ?_
      refine j_iconst dX11_load_22 (inr_d rfl) ?_
      refine j_iconst dX11_load_23 (inr_d rfl) ?_
      refine j_callVv (mX11_copyList (kl K) (kD K) (kad K) (kcA K) 0 1 s2) cw_RX11_188 sh_100 rfl ⟨rfl, rfl, by decide, by decide⟩ rfl rfl (Nat.le_of_ble_eq_true rfl) dX11_load_24 (fun _ s5 => ?_)
      refine j_aload_n dX11_load_27 rfl rfl ?_
      refine j_iconst dX11_load_28 (inr_d rfl) ?_
      refine j_putZ fp_RX11_191 sh_100 rfl dX11_load_29 (fun s6 => ?_)
      refine j_iconst dX11_load_32 (inr_d rfl) ?_
      refine j_istore_nE (ls2 := [some (.inr (.inr 100)), some (.inl 0)]) dX11_load_33 rfl (by decide) rfl rfl ?_
      refine j_msk [true, true] (jLX11_load_34 hq _ (fun s8 => ?_) _ _ _)
      refine j_aload_n dX11_load_54 rfl rfl ?_
      refine j_callVi (mX11_frameMany (kl K) (kD K) (kad K) (kcA K) s8) cw_RX11_195 sh_100 rfl ⟨rfl, rfl, by decide, by decide⟩ rfl rfl (Nat.le_of_ble_eq_true rfl) dX11_load_55 (fun r9 s10 => ?_)
      exact j_iret hq dX11_load_58
    · refine j_bipush (v := (-2)) dX11_load_18 (by decide +kernel) (inr_d rfl) ?_
      exact j_iret hq dX11_load_20
abbrev rmX11_find : Room := { frames := 0, cells := 0, slots := 0, locals := 0 }
theorem dX11_find_0 : decode cX11_find 0 = .ok (.aload_n 0, 1) := by decide +kernel
theorem dX11_find_1 : decode cX11_find 1 = .ok (.iload_n 1, 1) := by decide +kernel
theorem dX11_find_2 : decode cX11_find 2 = .ok (.putfield 198, 3) := by decide +kernel
theorem dX11_find_5 : decode cX11_find 5 = .ok (.aload_n 0, 1) := by decide +kernel
theorem dX11_find_6 : decode cX11_find 6 = .ok (.iconst 0, 1) := by decide +kernel
theorem dX11_find_7 : decode cX11_find 7 = .ok (.putfield 201, 3) := by decide +kernel
theorem dX11_find_10 : decode cX11_find 10 = .ok (.aload_n 0, 1) := by decide +kernel
theorem dX11_find_11 : decode cX11_find 11 = .ok (.getfield 201, 3) := by decide +kernel
theorem dX11_find_14 : decode cX11_find 14 = .ok (.aload_n 0, 1) := by decide +kernel
theorem dX11_find_15 : decode cX11_find 15 = .ok (.getfield 35, 3) := by decide +kernel
theorem dX11_find_18 : decode cX11_find 18 = .ok (.iconst 1, 1) := by decide +kernel
theorem dX11_find_19 : decode cX11_find 19 = .ok (.iaload, 1) := by decide +kernel
theorem dX11_find_20 : decode cX11_find 20 = .ok (.if_icmp .ge 56, 3) := by decide +kernel
theorem dX11_find_23 : decode cX11_find 23 = .ok (.aload_n 0, 1) := by decide +kernel
theorem dX11_find_24 : decode cX11_find 24 = .ok (.getfield 198, 3) := by decide +kernel
theorem dX11_find_27 : decode cX11_find 27 = .ok (.aload_n 0, 1) := by decide +kernel
theorem dX11_find_28 : decode cX11_find 28 = .ok (.getfield 41, 3) := by decide +kernel
theorem dX11_find_31 : decode cX11_find 31 = .ok (.bipush 16, 2) := by decide +kernel
theorem dX11_find_33 : decode cX11_find 33 = .ok (.aload_n 0, 1) := by decide +kernel
theorem dX11_find_34 : decode cX11_find 34 = .ok (.getfield 201, 3) := by decide +kernel
theorem dX11_find_37 : decode cX11_find 37 = .ok (.iadd, 1) := by decide +kernel
theorem dX11_find_38 : decode cX11_find 38 = .ok (.iaload, 1) := by decide +kernel
theorem dX11_find_39 : decode cX11_find 39 = .ok (.if_icmp .lt 37, 3) := by decide +kernel
theorem dX11_find_42 : decode cX11_find 42 = .ok (.aload_n 0, 1) := by decide +kernel
theorem dX11_find_43 : decode cX11_find 43 = .ok (.dup, 1) := by decide +kernel
theorem dX11_find_44 : decode cX11_find 44 = .ok (.getfield 198, 3) := by decide +kernel
theorem dX11_find_47 : decode cX11_find 47 = .ok (.aload_n 0, 1) := by decide +kernel
theorem dX11_find_48 : decode cX11_find 48 = .ok (.getfield 41, 3) := by decide +kernel
theorem dX11_find_51 : decode cX11_find 51 = .ok (.bipush 16, 2) := by decide +kernel
theorem dX11_find_53 : decode cX11_find 53 = .ok (.aload_n 0, 1) := by decide +kernel
theorem dX11_find_54 : decode cX11_find 54 = .ok (.getfield 201, 3) := by decide +kernel
theorem dX11_find_57 : decode cX11_find 57 = .ok (.iadd, 1) := by decide +kernel
theorem dX11_find_58 : decode cX11_find 58 = .ok (.iaload, 1) := by decide +kernel
theorem dX11_find_59 : decode cX11_find 59 = .ok (.isub, 1) := by decide +kernel
theorem dX11_find_60 : decode cX11_find 60 = .ok (.putfield 198, 3) := by decide +kernel
theorem dX11_find_63 : decode cX11_find 63 = .ok (.aload_n 0, 1) := by decide +kernel
theorem dX11_find_64 : decode cX11_find 64 = .ok (.dup, 1) := by decide +kernel
theorem dX11_find_65 : decode cX11_find 65 = .ok (.getfield 201, 3) := by decide +kernel
theorem dX11_find_68 : decode cX11_find 68 = .ok (.iconst 1, 1) := by decide +kernel
theorem dX11_find_69 : decode cX11_find 69 = .ok (.iadd, 1) := by decide +kernel
theorem dX11_find_70 : decode cX11_find 70 = .ok (.putfield 201, 3) := by decide +kernel
theorem dX11_find_73 : decode cX11_find 73 = .ok (.goto (-63), 3) := by decide +kernel
theorem dX11_find_76 : decode cX11_find 76 = .ok (.aload_n 0, 1) := by decide +kernel
theorem dX11_find_77 : decode cX11_find 77 = .ok (.getfield 191, 3) := by decide +kernel
theorem dX11_find_80 : decode cX11_find 80 = .ok (.ifCond .eq 20, 3) := by decide +kernel
theorem dX11_find_83 : decode cX11_find 83 = .ok (.aload_n 0, 1) := by decide +kernel
theorem dX11_find_84 : decode cX11_find 84 = .ok (.getfield 201, 3) := by decide +kernel
theorem dX11_find_87 : decode cX11_find 87 = .ok (.aload_n 0, 1) := by decide +kernel
theorem dX11_find_88 : decode cX11_find 88 = .ok (.getfield 35, 3) := by decide +kernel
theorem dX11_find_91 : decode cX11_find 91 = .ok (.iconst 1, 1) := by decide +kernel
theorem dX11_find_92 : decode cX11_find 92 = .ok (.iaload, 1) := by decide +kernel
theorem dX11_find_93 : decode cX11_find 93 = .ok (.if_icmp .ge 7, 3) := by decide +kernel
theorem dX11_find_96 : decode cX11_find 96 = .ok (.iconst 1, 1) := by decide +kernel
theorem dX11_find_97 : decode cX11_find 97 = .ok (.goto 4, 3) := by decide +kernel
theorem dX11_find_100 : decode cX11_find 100 = .ok (.iconst 0, 1) := by decide +kernel
theorem dX11_find_101 : decode cX11_find 101 = .ok (.ireturn, 1) := by decide +kernel
def LX11_find_10 (k76 : Mem → Option Res) : Nat → Mem → Option Res
  | 0 => fun  _ => none
  | n + 1 => fun  s => rd (s 106) 1 4 (fun v3 =>
 (if v3 ≤ s 100 35 then
 k76 s
 else
 rd (s 108) (wr (16 + (s 100 35))) 64 (fun v4 =>
 (if s 100 36 < v4 then
 k76 s
 else
 rd (s 108) (wr (16 + (s 100 35))) 64 (fun v5 =>
 lt (up s 100 36 (wr ((s 100 36) - v5))) (fun s6 =>
 lt (up s6 100 35 (wr ((s6 100 35) + 1))) (fun s7 =>
 LX11_find_10 k76 n s7)))))))
def fX11_find (a1 : Int) (s0 : Mem) : Option Res :=
 lt (up s0 100 36 a1) (fun s1 =>
 lt (up s1 100 35 0) (fun s2 =>
 LX11_find_10 (fun s8 =>
 (if s8 100 19 = 0 then
 zr 0 s8
 else
 rd (s8 106) 1 4 (fun v9 =>
 (if v9 ≤ s8 100 35 then
 zr 0 s8
 else
 zr 1 s8)))) FU s2))
set_option maxRecDepth 100000 in
set_option maxHeartbeats 4000000 in
theorem jLX11_find_10 {K : KT} (hq : KI K (some .boolean)) (k76 : Mem → Option Res) (hk76 : ∀ (s : Mem), J K rmX11_find cX11_find RX11 2 76 [some (.inr (.inr 100)), none] [] s (k76 s)) : ∀ (n : Nat) (s : Mem), J K rmX11_find cX11_find RX11 2 10 [some (.inr (.inr 100)), none] [] s (LX11_find_10 k76 n s) := by
  intro n
  induction n with
  | zero => intros; exact J_none
  | succ n ih =>
    intro  s
    show J K _ _ _ _ _ _ _ _ (LX11_find_10 k76 (n + 1)  s)
    simp only [LX11_find_10]
    refine j_aload_n dX11_find_10 rfl rfl ?_
    refine j_getI fl_RX11_201 sh_100 rfl dX11_find_11 ?_
    refine j_aload_n dX11_find_14 rfl rfl ?_
    refine j_getR fl_RX11_35 sh_100 rfl dX11_find_15 ?_
    refine j_iconst dX11_find_18 (inr_d rfl) ?_
    refine j_iald sh_106 dX11_find_19 (fun v3 => ?_)
    refine j_icmp_ge (tgt := 76) dX11_find_20 rfl ?_ ?_
    · exact j_msk [true, false] (hk76 _)
    · refine j_aload_n dX11_find_23 rfl rfl ?_
      refine j_getI fl_RX11_198 sh_100 rfl dX11_find_24 ?_
      refine j_aload_n dX11_find_27 rfl rfl ?_
      refine j_getR fl_RX11_41 sh_100 rfl dX11_find_28 ?_
      refine j_bipush (v := 16) dX11_find_31 (by decide +kernel) (inr_d rfl) ?_
      refine j_aload_n dX11_find_33 rfl rfl ?_
      refine j_getI fl_RX11_201 sh_100 rfl dX11_find_34 ?_
      refine j_iadd dX11_find_37 ?_
      refine j_iald sh_108 dX11_find_38 (fun v4 => ?_)
      refine j_icmp_lt (tgt := 76) dX11_find_39 rfl ?_ ?_
      · exact j_msk [true, false] (hk76 _)
      · refine j_aload_n dX11_find_42 rfl rfl ?_
        refine j_dup rfl dX11_find_43 ?_
        refine j_getI fl_RX11_198 sh_100 rfl dX11_find_44 ?_
        refine j_aload_n dX11_find_47 rfl rfl ?_
        refine j_getR fl_RX11_41 sh_100 rfl dX11_find_48 ?_
        refine j_bipush (v := 16) dX11_find_51 (by decide +kernel) (inr_d rfl) ?_
        refine j_aload_n dX11_find_53 rfl rfl ?_
        refine j_getI fl_RX11_201 sh_100 rfl dX11_find_54 ?_
        refine j_iadd dX11_find_57 ?_
        refine j_iald sh_108 dX11_find_58 (fun v5 => ?_)
        refine j_isub dX11_find_59 ?_
        refine j_putI fp_RX11_198 sh_100 rfl dX11_find_60 (fun s6 => ?_)
        refine j_aload_n dX11_find_63 rfl rfl ?_
        refine j_dup rfl dX11_find_64 ?_
        refine j_getI fl_RX11_201 sh_100 rfl dX11_find_65 ?_
        refine j_iconst dX11_find_68 (inr_d rfl) ?_
        refine j_iadd dX11_find_69 ?_
        refine j_putI fp_RX11_201 sh_100 rfl dX11_find_70 (fun s7 => ?_)
        refine j_goto (tgt := 10) dX11_find_73 rfl ?_
        exact j_msk [true, false] (ih _)
set_option maxRecDepth 100000 in
set_option maxHeartbeats 4000000 in
theorem mX11_find (l : Launch) (D : va_G) (ad : Nat → Nat) (cA : Nat → ClassId) (a1 : Int) (s0 : Mem) : MCi l D ad cA yX11_find cX11_find 2 (some .boolean) rmX11_find [.inr (.inr 100), .inl a1] s0 (fX11_find a1 s0) := by
  refine MCi_ofE (own := RX11) (ls := [some (.inr (.inr 100)), some (.inl a1)]) 0 (by decide +kernel) rfl rfl (fun _ => Nat.le_of_ble_eq_true rfl) (fun K hq => ?_)
  unfold fX11_find
  refine j_aload_n dX11_find_0 rfl rfl ?_
  refine j_iload_n dX11_find_1 rfl rfl ?_
  refine j_putI fp_RX11_198 sh_100 rfl dX11_find_2 (fun s1 => ?_)
  refine j_aload_n dX11_find_5 rfl rfl ?_
  refine j_iconst dX11_find_6 (inr_d rfl) ?_
  refine j_putI fp_RX11_201 sh_100 rfl dX11_find_7 (fun s2 => ?_)
  refine j_msk [true, false] (jLX11_find_10 hq _ (fun s8 => ?_) _ _)
  refine j_aload_n dX11_find_76 rfl rfl ?_
  refine j_getI fl_RX11_191 sh_100 rfl dX11_find_77 ?_
  refine j_if_eq (tgt := 100) dX11_find_80 rfl ?_ ?_
  · refine j_iconst dX11_find_100 (inr_d rfl) ?_
    exact j_zret hq dX11_find_101
  · refine j_aload_n dX11_find_83 rfl rfl ?_
    refine j_getI fl_RX11_201 sh_100 rfl dX11_find_84 ?_
    refine j_aload_n dX11_find_87 rfl rfl ?_
    refine j_getR fl_RX11_35 sh_100 rfl dX11_find_88 ?_
    refine j_iconst dX11_find_91 (inr_d rfl) ?_
    refine j_iald sh_106 dX11_find_92 (fun v9 => ?_)
    refine j_icmp_ge (tgt := 100) dX11_find_93 rfl ?_ ?_
    · refine j_iconst dX11_find_100 (inr_d rfl) ?_
      exact j_zret hq dX11_find_101
    · refine j_iconst dX11_find_96 (inr_d rfl) ?_
      refine j_goto (tgt := 101) dX11_find_97 rfl ?_
      exact j_zret hq dX11_find_101
abbrev rmX11_lightHere : Room := { frames := 1, cells := 0, slots := 0, locals := 22 }
theorem dX11_lightHere_0 : decode cX11_lightHere 0 = .ok (.bipush 16, 2) := by decide +kernel
theorem dX11_lightHere_2 : decode cX11_lightHere 2 = .ok (.aload_n 0, 1) := by decide +kernel
theorem dX11_lightHere_3 : decode cX11_lightHere 3 = .ok (.getfield 201, 3) := by decide +kernel
theorem dX11_lightHere_6 : decode cX11_lightHere 6 = .ok (.iadd, 1) := by decide +kernel
theorem dX11_lightHere_7 : decode cX11_lightHere 7 = .ok (.istore_n 2, 1) := by decide +kernel
theorem dX11_lightHere_8 : decode cX11_lightHere 8 = .ok (.aload_n 0, 1) := by decide +kernel
theorem dX11_lightHere_9 : decode cX11_lightHere 9 = .ok (.getfield 44, 3) := by decide +kernel
theorem dX11_lightHere_12 : decode cX11_lightHere 12 = .ok (.bipush 48, 2) := by decide +kernel
theorem dX11_lightHere_14 : decode cX11_lightHere 14 = .ok (.iconst 3, 1) := by decide +kernel
theorem dX11_lightHere_15 : decode cX11_lightHere 15 = .ok (.aload_n 0, 1) := by decide +kernel
theorem dX11_lightHere_16 : decode cX11_lightHere 16 = .ok (.getfield 201, 3) := by decide +kernel
theorem dX11_lightHere_19 : decode cX11_lightHere 19 = .ok (.imul, 1) := by decide +kernel
theorem dX11_lightHere_20 : decode cX11_lightHere 20 = .ok (.iadd, 1) := by decide +kernel
theorem dX11_lightHere_21 : decode cX11_lightHere 21 = .ok (.iload_n 1, 1) := by decide +kernel
theorem dX11_lightHere_22 : decode cX11_lightHere 22 = .ok (.iadd, 1) := by decide +kernel
theorem dX11_lightHere_23 : decode cX11_lightHere 23 = .ok (.iaload, 1) := by decide +kernel
theorem dX11_lightHere_24 : decode cX11_lightHere 24 = .ok (.istore_n 3, 1) := by decide +kernel
theorem dX11_lightHere_25 : decode cX11_lightHere 25 = .ok (.aload_n 0, 1) := by decide +kernel
theorem dX11_lightHere_26 : decode cX11_lightHere 26 = .ok (.getfield 198, 3) := by decide +kernel
theorem dX11_lightHere_29 : decode cX11_lightHere 29 = .ok (.aload_n 0, 1) := by decide +kernel
theorem dX11_lightHere_30 : decode cX11_lightHere 30 = .ok (.getfield 41, 3) := by decide +kernel
theorem dX11_lightHere_33 : decode cX11_lightHere 33 = .ok (.iload_n 2, 1) := by decide +kernel
theorem dX11_lightHere_34 : decode cX11_lightHere 34 = .ok (.iaload, 1) := by decide +kernel
theorem dX11_lightHere_35 : decode cX11_lightHere 35 = .ok (.aload_n 0, 1) := by decide +kernel
theorem dX11_lightHere_36 : decode cX11_lightHere 36 = .ok (.getfield 47, 3) := by decide +kernel
theorem dX11_lightHere_39 : decode cX11_lightHere 39 = .ok (.iload_n 2, 1) := by decide +kernel
theorem dX11_lightHere_40 : decode cX11_lightHere 40 = .ok (.iaload, 1) := by decide +kernel
theorem dX11_lightHere_41 : decode cX11_lightHere 41 = .ok (.isub, 1) := by decide +kernel
theorem dX11_lightHere_42 : decode cX11_lightHere 42 = .ok (.isub, 1) := by decide +kernel
theorem dX11_lightHere_43 : decode cX11_lightHere 43 = .ok (.iconst 1, 1) := by decide +kernel
theorem dX11_lightHere_44 : decode cX11_lightHere 44 = .ok (.iadd, 1) := by decide +kernel
theorem dX11_lightHere_45 : decode cX11_lightHere 45 = .ok (.istore 4, 2) := by decide +kernel
theorem dX11_lightHere_47 : decode cX11_lightHere 47 = .ok (.aload_n 0, 1) := by decide +kernel
theorem dX11_lightHere_48 : decode cX11_lightHere 48 = .ok (.getfield 47, 3) := by decide +kernel
theorem dX11_lightHere_51 : decode cX11_lightHere 51 = .ok (.iload_n 2, 1) := by decide +kernel
theorem dX11_lightHere_52 : decode cX11_lightHere 52 = .ok (.iaload, 1) := by decide +kernel
theorem dX11_lightHere_53 : decode cX11_lightHere 53 = .ok (.ifCond .le 39, 3) := by decide +kernel
theorem dX11_lightHere_56 : decode cX11_lightHere 56 = .ok (.iload 4, 2) := by decide +kernel
theorem dX11_lightHere_58 : decode cX11_lightHere 58 = .ok (.ifCond .le 34, 3) := by decide +kernel
theorem dX11_lightHere_61 : decode cX11_lightHere 61 = .ok (.iload_n 3, 1) := by decide +kernel
theorem dX11_lightHere_62 : decode cX11_lightHere 62 = .ok (.aload_n 0, 1) := by decide +kernel
theorem dX11_lightHere_63 : decode cX11_lightHere 63 = .ok (.getfield 50, 3) := by decide +kernel
theorem dX11_lightHere_66 : decode cX11_lightHere 66 = .ok (.bipush 48, 2) := by decide +kernel
theorem dX11_lightHere_68 : decode cX11_lightHere 68 = .ok (.iconst 3, 1) := by decide +kernel
theorem dX11_lightHere_69 : decode cX11_lightHere 69 = .ok (.aload_n 0, 1) := by decide +kernel
theorem dX11_lightHere_70 : decode cX11_lightHere 70 = .ok (.getfield 201, 3) := by decide +kernel
theorem dX11_lightHere_73 : decode cX11_lightHere 73 = .ok (.imul, 1) := by decide +kernel
theorem dX11_lightHere_74 : decode cX11_lightHere 74 = .ok (.iadd, 1) := by decide +kernel
theorem dX11_lightHere_75 : decode cX11_lightHere 75 = .ok (.iload_n 1, 1) := by decide +kernel
theorem dX11_lightHere_76 : decode cX11_lightHere 76 = .ok (.iadd, 1) := by decide +kernel
theorem dX11_lightHere_77 : decode cX11_lightHere 77 = .ok (.iaload, 1) := by decide +kernel
theorem dX11_lightHere_78 : decode cX11_lightHere 78 = .ok (.iload_n 3, 1) := by decide +kernel
theorem dX11_lightHere_79 : decode cX11_lightHere 79 = .ok (.isub, 1) := by decide +kernel
theorem dX11_lightHere_80 : decode cX11_lightHere 80 = .ok (.iload 4, 2) := by decide +kernel
theorem dX11_lightHere_82 : decode cX11_lightHere 82 = .ok (.imul, 1) := by decide +kernel
theorem dX11_lightHere_83 : decode cX11_lightHere 83 = .ok (.aload_n 0, 1) := by decide +kernel
theorem dX11_lightHere_84 : decode cX11_lightHere 84 = .ok (.getfield 47, 3) := by decide +kernel
theorem dX11_lightHere_87 : decode cX11_lightHere 87 = .ok (.iload_n 2, 1) := by decide +kernel
theorem dX11_lightHere_88 : decode cX11_lightHere 88 = .ok (.iaload, 1) := by decide +kernel
theorem dX11_lightHere_89 : decode cX11_lightHere 89 = .ok (.idiv, 1) := by decide +kernel
theorem dX11_lightHere_90 : decode cX11_lightHere 90 = .ok (.iadd, 1) := by decide +kernel
theorem dX11_lightHere_91 : decode cX11_lightHere 91 = .ok (.istore_n 3, 1) := by decide +kernel
theorem dX11_lightHere_92 : decode cX11_lightHere 92 = .ok (.iconst 0, 1) := by decide +kernel
theorem dX11_lightHere_93 : decode cX11_lightHere 93 = .ok (.istore 5, 2) := by decide +kernel
theorem dX11_lightHere_95 : decode cX11_lightHere 95 = .ok (.iload 5, 2) := by decide +kernel
theorem dX11_lightHere_97 : decode cX11_lightHere 97 = .ok (.aload_n 0, 1) := by decide +kernel
theorem dX11_lightHere_98 : decode cX11_lightHere 98 = .ok (.getfield 53, 3) := by decide +kernel
theorem dX11_lightHere_101 : decode cX11_lightHere 101 = .ok (.iload_n 2, 1) := by decide +kernel
theorem dX11_lightHere_102 : decode cX11_lightHere 102 = .ok (.iaload, 1) := by decide +kernel
theorem dX11_lightHere_103 : decode cX11_lightHere 103 = .ok (.if_icmp .ge 84, 3) := by decide +kernel
theorem dX11_lightHere_106 : decode cX11_lightHere 106 = .ok (.bipush 64, 2) := by decide +kernel
theorem dX11_lightHere_108 : decode cX11_lightHere 108 = .ok (.iconst 4, 1) := by decide +kernel
theorem dX11_lightHere_109 : decode cX11_lightHere 109 = .ok (.aload_n 0, 1) := by decide +kernel
theorem dX11_lightHere_110 : decode cX11_lightHere 110 = .ok (.getfield 201, 3) := by decide +kernel
theorem dX11_lightHere_113 : decode cX11_lightHere 113 = .ok (.imul, 1) := by decide +kernel
theorem dX11_lightHere_114 : decode cX11_lightHere 114 = .ok (.iadd, 1) := by decide +kernel
theorem dX11_lightHere_115 : decode cX11_lightHere 115 = .ok (.iload 5, 2) := by decide +kernel
theorem dX11_lightHere_117 : decode cX11_lightHere 117 = .ok (.iadd, 1) := by decide +kernel
theorem dX11_lightHere_118 : decode cX11_lightHere 118 = .ok (.istore 6, 2) := by decide +kernel
theorem dX11_lightHere_120 : decode cX11_lightHere 120 = .ok (.aload_n 0, 1) := by decide +kernel
theorem dX11_lightHere_121 : decode cX11_lightHere 121 = .ok (.getfield 198, 3) := by decide +kernel
theorem dX11_lightHere_124 : decode cX11_lightHere 124 = .ok (.aload_n 0, 1) := by decide +kernel
theorem dX11_lightHere_125 : decode cX11_lightHere 125 = .ok (.getfield 56, 3) := by decide +kernel
theorem dX11_lightHere_128 : decode cX11_lightHere 128 = .ok (.iload 6, 2) := by decide +kernel
theorem dX11_lightHere_130 : decode cX11_lightHere 130 = .ok (.iaload, 1) := by decide +kernel
theorem dX11_lightHere_131 : decode cX11_lightHere 131 = .ok (.aload_n 0, 1) := by decide +kernel
theorem dX11_lightHere_132 : decode cX11_lightHere 132 = .ok (.getfield 56, 3) := by decide +kernel
theorem dX11_lightHere_135 : decode cX11_lightHere 135 = .ok (.iload 6, 2) := by decide +kernel
theorem dX11_lightHere_137 : decode cX11_lightHere 137 = .ok (.iaload, 1) := by decide +kernel
theorem dX11_lightHere_138 : decode cX11_lightHere 138 = .ok (.aload_n 0, 1) := by decide +kernel
theorem dX11_lightHere_139 : decode cX11_lightHere 139 = .ok (.getfield 59, 3) := by decide +kernel
theorem dX11_lightHere_142 : decode cX11_lightHere 142 = .ok (.iload 6, 2) := by decide +kernel
theorem dX11_lightHere_144 : decode cX11_lightHere 144 = .ok (.iaload, 1) := by decide +kernel
theorem dX11_lightHere_145 : decode cX11_lightHere 145 = .ok (.iadd, 1) := by decide +kernel
theorem dX11_lightHere_146 : decode cX11_lightHere 146 = .ok (.iconst 1, 1) := by decide +kernel
theorem dX11_lightHere_147 : decode cX11_lightHere 147 = .ok (.isub, 1) := by decide +kernel
theorem dX11_lightHere_148 : decode cX11_lightHere 148 = .ok (.invokestatic 125, 3) := by decide +kernel
theorem dX11_lightHere_151 : decode cX11_lightHere 151 = .ok (.ifCond .eq 30, 3) := by decide +kernel
theorem dX11_lightHere_154 : decode cX11_lightHere 154 = .ok (.iload_n 3, 1) := by decide +kernel
theorem dX11_lightHere_155 : decode cX11_lightHere 155 = .ok (.aload_n 0, 1) := by decide +kernel
theorem dX11_lightHere_156 : decode cX11_lightHere 156 = .ok (.getfield 62, 3) := by decide +kernel
theorem dX11_lightHere_159 : decode cX11_lightHere 159 = .ok (.iload 6, 2) := by decide +kernel
theorem dX11_lightHere_161 : decode cX11_lightHere 161 = .ok (.iaload, 1) := by decide +kernel
theorem dX11_lightHere_162 : decode cX11_lightHere 162 = .ok (.isub, 1) := by decide +kernel
theorem dX11_lightHere_163 : decode cX11_lightHere 163 = .ok (.iconst 1, 1) := by decide +kernel
theorem dX11_lightHere_164 : decode cX11_lightHere 164 = .ok (.if_icmp .ge 7, 3) := by decide +kernel
theorem dX11_lightHere_167 : decode cX11_lightHere 167 = .ok (.iconst 1, 1) := by decide +kernel
theorem dX11_lightHere_168 : decode cX11_lightHere 168 = .ok (.goto 12, 3) := by decide +kernel
theorem dX11_lightHere_171 : decode cX11_lightHere 171 = .ok (.iload_n 3, 1) := by decide +kernel
theorem dX11_lightHere_172 : decode cX11_lightHere 172 = .ok (.aload_n 0, 1) := by decide +kernel
theorem dX11_lightHere_173 : decode cX11_lightHere 173 = .ok (.getfield 62, 3) := by decide +kernel
theorem dX11_lightHere_176 : decode cX11_lightHere 176 = .ok (.iload 6, 2) := by decide +kernel
theorem dX11_lightHere_178 : decode cX11_lightHere 178 = .ok (.iaload, 1) := by decide +kernel
theorem dX11_lightHere_179 : decode cX11_lightHere 179 = .ok (.isub, 1) := by decide +kernel
theorem dX11_lightHere_180 : decode cX11_lightHere 180 = .ok (.istore_n 3, 1) := by decide +kernel
theorem dX11_lightHere_181 : decode cX11_lightHere 181 = .ok (.iinc 5 1, 3) := by decide +kernel
theorem dX11_lightHere_184 : decode cX11_lightHere 184 = .ok (.goto (-89), 3) := by decide +kernel
theorem dX11_lightHere_187 : decode cX11_lightHere 187 = .ok (.iload_n 3, 1) := by decide +kernel
theorem dX11_lightHere_188 : decode cX11_lightHere 188 = .ok (.ireturn, 1) := by decide +kernel
def LX11_lightHere_95 (c2 : Int) (k187 : Int → Mem → Option Res) : Nat → Int → Int → Mem → Option Res
  | 0 => fun _ _ _ => none
  | n + 1 => fun x3 x5 s => rd (s 112) c2 64 (fun v7 =>
 (if v7 ≤ x5 then
 k187 x3 s
 else
 lt (wr ((wr (64 + (wr (4 * (s 100 35))))) + x5)) (fun v8 =>
 rd (s 113) v8 256 (fun v9 =>
 rd (s 113) v8 256 (fun v10 =>
 rd (s 114) v8 256 (fun v11 =>
 bnd (fX11_in (s 100 36) v9 (wr ((wr (v10 + v11)) - 1)) s) (fun r12 s13 =>
 (if r12 = 0 then
 LX11_lightHere_95 c2 k187 n x3 (wr (x5 + 1)) s13
 else
 rd (s13 115) v8 256 (fun v14 =>
 (if 1 ≤ wr (x3 - v14) then
 rd (s13 115) v8 256 (fun v15 =>
 lt (wr (x3 - v15)) (fun v16 =>
 LX11_lightHere_95 c2 k187 n v16 (wr (x5 + 1)) s13))
 else
 LX11_lightHere_95 c2 k187 n 1 (wr (x5 + 1)) s13))))))))))
def fX11_lightHere (a1 : Int) (s0 : Mem) : Option Res :=
 lt (wr (16 + (s0 100 35))) (fun v1 =>
 rd (s0 109) (wr ((wr (48 + (wr (3 * (s0 100 35))))) + a1)) 192 (fun v2 =>
 rd (s0 108) v1 64 (fun v3 =>
 rd (s0 110) v1 64 (fun v4 =>
 lt (wr ((wr ((s0 100 36) - (wr (v3 - v4)))) + 1)) (fun v5 =>
 rd (s0 110) v1 64 (fun v6 =>
 (if v6 ≤ 0 then
 LX11_lightHere_95 v1 (fun y18 s17 =>
 some (y18, s17)) FU v2 0 s0
 else
 (if v5 ≤ 0 then
 LX11_lightHere_95 v1 (fun y20 s19 =>
 some (y20, s19)) FU v2 0 s0
 else
 rd (s0 111) (wr ((wr (48 + (wr (3 * (s0 100 35))))) + a1)) 192 (fun v21 =>
 rd (s0 110) v1 64 (fun v22 =>
 dv (wr ((wr (v21 - v2)) * v5)) v22 (fun v23 =>
 lt (wr (v2 + v23)) (fun v24 =>
 LX11_lightHere_95 v1 (fun y26 s25 =>
 some (y26, s25)) FU v24 0 s0))))))))))))
set_option maxRecDepth 100000 in
set_option maxHeartbeats 4000000 in
theorem jLX11_lightHere_95 {K : KT} (hq : KI K (some .int)) (c2 : Int) (k187 : Int → Mem → Option Res) (hk187 : ∀ (y3 : Int) (s : Mem), J K rmX11_lightHere cX11_lightHere RX11 7 187 [none, none, none, some (.inl y3), none, none, none] [] s (k187 y3 s)) : ∀ (n : Nat) (x3 : Int) (x5 : Int) (s : Mem), J K rmX11_lightHere cX11_lightHere RX11 7 95 [some (.inr (.inr 100)), none, some (.inl c2), some (.inl x3), none, some (.inl x5), none] [] s (LX11_lightHere_95 c2 k187 n x3 x5 s) := by
  intro n
  induction n with
  | zero => intros; exact J_none
  | succ n ih =>
    intro x3 x5 s
    show J K _ _ _ _ _ _ _ _ (LX11_lightHere_95 c2 k187 (n + 1) x3 x5 s)
    simp only [LX11_lightHere_95]
    refine j_iload dX11_lightHere_95 rfl ?_
    refine j_aload_n dX11_lightHere_97 rfl rfl ?_
    refine j_getR fl_RX11_53 sh_100 rfl dX11_lightHere_98 ?_
    refine j_iload_n dX11_lightHere_101 rfl rfl ?_
    refine j_iald sh_112 dX11_lightHere_102 (fun v7 => ?_)
    refine j_icmp_ge (tgt := 187) dX11_lightHere_103 rfl ?_ ?_
    · exact j_msk [false, false, false, true, false, false, false] (hk187 _ _)
    · refine j_bipush (v := 64) dX11_lightHere_106 (by decide +kernel) (inr_d rfl) ?_
      refine j_iconst dX11_lightHere_108 (inr_d rfl) ?_
      refine j_aload_n dX11_lightHere_109 rfl rfl ?_
      refine j_getI fl_RX11_201 sh_100 rfl dX11_lightHere_110 ?_
      refine j_imul dX11_lightHere_113 ?_
      refine j_iadd dX11_lightHere_114 ?_
      refine j_iload dX11_lightHere_115 rfl ?_
      refine j_iadd dX11_lightHere_117 ?_
      refine j_ltv (fun v8 => ?_)
      refine j_istoreE (ls2 := [some (.inr (.inr 100)), none, some (.inl c2), some (.inl x3), none, some (.inl x5), some (.inl v8)]) dX11_lightHere_118 (by decide) rfl rfl ?_
      refine j_aload_n dX11_lightHere_120 rfl rfl ?_
      refine j_getI fl_RX11_198 sh_100 rfl dX11_lightHere_121 ?_
      refine j_aload_n dX11_lightHere_124 rfl rfl ?_
      refine j_getR fl_RX11_56 sh_100 rfl dX11_lightHere_125 ?_
      refine j_iload dX11_lightHere_128 rfl ?_
      refine j_iald sh_113 dX11_lightHere_130 (fun v9 => ?_)
      refine j_aload_n dX11_lightHere_131 rfl rfl ?_
      refine j_getR fl_RX11_56 sh_100 rfl dX11_lightHere_132 ?_
      refine j_iload dX11_lightHere_135 rfl ?_
      refine j_iald sh_113 dX11_lightHere_137 (fun v10 => ?_)
      refine j_aload_n dX11_lightHere_138 rfl rfl ?_
      refine j_getR fl_RX11_59 sh_100 rfl dX11_lightHere_139 ?_
      refine j_iload dX11_lightHere_142 rfl ?_
      refine j_iald sh_114 dX11_lightHere_144 (fun v11 => ?_)
      refine j_iadd dX11_lightHere_145 ?_
      refine j_iconst dX11_lightHere_146 (inr_d rfl) ?_
      refine j_isub dX11_lightHere_147 ?_
      refine j_callSi (mX11_in (kl K) (kD K) (kad K) (kcA K) (s 100 36) v9 (wr ((wr (v10 + v11)) - 1)) s) cw_RX11_125 ⟨rfl, rfl, by decide, by decide⟩ rfl rfl (Nat.le_of_ble_eq_true rfl) dX11_lightHere_148 (fun r12 s13 => ?_)
      refine j_if_eq (tgt := 181) dX11_lightHere_151 rfl ?_ ?_
      · refine j_iincE (ls2 := [some (.inr (.inr 100)), none, some (.inl c2), some (.inl x3), none, some (.inl (wr (x5 + 1))), some (.inl v8)]) dX11_lightHere_181 rfl (by decide) rfl rfl ?_
        refine j_goto (tgt := 95) dX11_lightHere_184 rfl ?_
        exact j_msk [true, false, true, true, false, true, false] (ih _ _ _)
      · refine j_iload_n dX11_lightHere_154 rfl rfl ?_
        refine j_aload_n dX11_lightHere_155 rfl rfl ?_
        refine j_getR fl_RX11_62 sh_100 rfl dX11_lightHere_156 ?_
        refine j_iload dX11_lightHere_159 rfl ?_
        refine j_iald sh_115 dX11_lightHere_161 (fun v14 => ?_)
        refine j_isub dX11_lightHere_162 ?_
        refine j_iconst dX11_lightHere_163 (inr_d rfl) ?_
        refine j_icmp_ge (tgt := 171) dX11_lightHere_164 rfl ?_ ?_
        · refine j_iload_n dX11_lightHere_171 rfl rfl ?_
          refine j_aload_n dX11_lightHere_172 rfl rfl ?_
          refine j_getR fl_RX11_62 sh_100 rfl dX11_lightHere_173 ?_
          refine j_iload dX11_lightHere_176 rfl ?_
          refine j_iald sh_115 dX11_lightHere_178 (fun v15 => ?_)
          refine j_isub dX11_lightHere_179 ?_
          refine j_ltv (fun v16 => ?_)
          refine j_istore_nE (ls2 := [some (.inr (.inr 100)), none, some (.inl c2), some (.inl v16), none, some (.inl x5), some (.inl v8)]) dX11_lightHere_180 rfl (by decide) rfl rfl ?_
          refine j_iincE (ls2 := [some (.inr (.inr 100)), none, some (.inl c2), some (.inl v16), none, some (.inl (wr (x5 + 1))), some (.inl v8)]) dX11_lightHere_181 rfl (by decide) rfl rfl ?_
          refine j_goto (tgt := 95) dX11_lightHere_184 rfl ?_
          exact j_msk [true, false, true, true, false, true, false] (ih _ _ _)
        · refine j_iconst dX11_lightHere_167 (inr_d rfl) ?_
          refine j_goto (tgt := 180) dX11_lightHere_168 rfl ?_
          refine j_istore_nE (ls2 := [some (.inr (.inr 100)), none, some (.inl c2), some (.inl 1), none, some (.inl x5), some (.inl v8)]) dX11_lightHere_180 rfl (by decide) rfl rfl ?_
          refine j_iincE (ls2 := [some (.inr (.inr 100)), none, some (.inl c2), some (.inl 1), none, some (.inl (wr (x5 + 1))), some (.inl v8)]) dX11_lightHere_181 rfl (by decide) rfl rfl ?_
          refine j_goto (tgt := 95) dX11_lightHere_184 rfl ?_
          exact j_msk [true, false, true, true, false, true, false] (ih _ _ _)
set_option maxRecDepth 100000 in
set_option maxHeartbeats 4000000 in
theorem mX11_lightHere (l : Launch) (D : va_G) (ad : Nat → Nat) (cA : Nat → ClassId) (a1 : Int) (s0 : Mem) : MCi l D ad cA yX11_lightHere cX11_lightHere 7 (some .int) rmX11_lightHere [.inr (.inr 100), .inl a1] s0 (fX11_lightHere a1 s0) := by
  refine MCi_ofE (own := RX11) (ls := [some (.inr (.inr 100)), some (.inl a1), none, none, none, none, none]) 5 (by decide +kernel) rfl rfl (fun _ => Nat.le_of_ble_eq_true rfl) (fun K hq => ?_)
  unfold fX11_lightHere
  refine j_bipush (v := 16) dX11_lightHere_0 (by decide +kernel) (inr_d rfl) ?_
  refine j_aload_n dX11_lightHere_2 rfl rfl ?_
  refine j_getI fl_RX11_201 sh_100 rfl dX11_lightHere_3 ?_
  refine j_iadd dX11_lightHere_6 ?_
  refine j_ltv (fun v1 => ?_)
  refine j_istore_nE (ls2 := [some (.inr (.inr 100)), some (.inl a1), some (.inl v1), none, none, none, none]) dX11_lightHere_7 rfl (by decide) rfl rfl ?_
  refine j_aload_n dX11_lightHere_8 rfl rfl ?_
  refine j_getR fl_RX11_44 sh_100 rfl dX11_lightHere_9 ?_
  refine j_bipush (v := 48) dX11_lightHere_12 (by decide +kernel) (inr_d rfl) ?_
  refine j_iconst dX11_lightHere_14 (inr_d rfl) ?_
  refine j_aload_n dX11_lightHere_15 rfl rfl ?_
  refine j_getI fl_RX11_201 sh_100 rfl dX11_lightHere_16 ?_
  refine j_imul dX11_lightHere_19 ?_
  refine j_iadd dX11_lightHere_20 ?_
  refine j_iload_n dX11_lightHere_21 rfl rfl ?_
  refine j_iadd dX11_lightHere_22 ?_
  refine j_iald sh_109 dX11_lightHere_23 (fun v2 => ?_)
  refine j_istore_nE (ls2 := [some (.inr (.inr 100)), some (.inl a1), some (.inl v1), some (.inl v2), none, none, none]) dX11_lightHere_24 rfl (by decide) rfl rfl ?_
  refine j_aload_n dX11_lightHere_25 rfl rfl ?_
  refine j_getI fl_RX11_198 sh_100 rfl dX11_lightHere_26 ?_
  refine j_aload_n dX11_lightHere_29 rfl rfl ?_
  refine j_getR fl_RX11_41 sh_100 rfl dX11_lightHere_30 ?_
  refine j_iload_n dX11_lightHere_33 rfl rfl ?_
  refine j_iald sh_108 dX11_lightHere_34 (fun v3 => ?_)
  refine j_aload_n dX11_lightHere_35 rfl rfl ?_
  refine j_getR fl_RX11_47 sh_100 rfl dX11_lightHere_36 ?_
  refine j_iload_n dX11_lightHere_39 rfl rfl ?_
  refine j_iald sh_110 dX11_lightHere_40 (fun v4 => ?_)
  refine j_isub dX11_lightHere_41 ?_
  refine j_isub dX11_lightHere_42 ?_
  refine j_iconst dX11_lightHere_43 (inr_d rfl) ?_
  refine j_iadd dX11_lightHere_44 ?_
  refine j_ltv (fun v5 => ?_)
  refine j_istoreE (ls2 := [some (.inr (.inr 100)), some (.inl a1), some (.inl v1), some (.inl v2), some (.inl v5), none, none]) dX11_lightHere_45 (by decide) rfl rfl ?_
  refine j_aload_n dX11_lightHere_47 rfl rfl ?_
  refine j_getR fl_RX11_47 sh_100 rfl dX11_lightHere_48 ?_
  refine j_iload_n dX11_lightHere_51 rfl rfl ?_
  refine j_iald sh_110 dX11_lightHere_52 (fun v6 => ?_)
  refine j_if_le (tgt := 92) dX11_lightHere_53 rfl ?_ ?_
  · refine j_iconst dX11_lightHere_92 (inr_d rfl) ?_
    refine j_istoreE (ls2 := [some (.inr (.inr 100)), some (.inl a1), some (.inl v1), some (.inl v2), some (.inl v5), some (.inl 0), none]) dX11_lightHere_93 (by decide) rfl rfl ?_
    refine j_msk [true, false, true, true, false, true, false] (jLX11_lightHere_95 hq _ _ (fun y18 s17 => ?_) _ _ _ _)
    refine j_iload_n dX11_lightHere_187 rfl rfl ?_
    exact j_iret hq dX11_lightHere_188
  · refine j_iload dX11_lightHere_56 rfl ?_
    refine j_if_le (tgt := 92) dX11_lightHere_58 rfl ?_ ?_
    · refine j_iconst dX11_lightHere_92 (inr_d rfl) ?_
      refine j_istoreE (ls2 := [some (.inr (.inr 100)), some (.inl a1), some (.inl v1), some (.inl v2), some (.inl v5), some (.inl 0), none]) dX11_lightHere_93 (by decide) rfl rfl ?_
      refine j_msk [true, false, true, true, false, true, false] (jLX11_lightHere_95 hq _ _ (fun y20 s19 => ?_) _ _ _ _)
      refine j_iload_n dX11_lightHere_187 rfl rfl ?_
      exact j_iret hq dX11_lightHere_188
    · refine j_iload_n dX11_lightHere_61 rfl rfl ?_
      refine j_aload_n dX11_lightHere_62 rfl rfl ?_
      refine j_getR fl_RX11_50 sh_100 rfl dX11_lightHere_63 ?_
      refine j_bipush (v := 48) dX11_lightHere_66 (by decide +kernel) (inr_d rfl) ?_
      refine j_iconst dX11_lightHere_68 (inr_d rfl) ?_
      refine j_aload_n dX11_lightHere_69 rfl rfl ?_
      refine j_getI fl_RX11_201 sh_100 rfl dX11_lightHere_70 ?_
      refine j_imul dX11_lightHere_73 ?_
      refine j_iadd dX11_lightHere_74 ?_
      refine j_iload_n dX11_lightHere_75 rfl rfl ?_
      refine j_iadd dX11_lightHere_76 ?_
      refine j_iald sh_111 dX11_lightHere_77 (fun v21 => ?_)
      refine j_iload_n dX11_lightHere_78 rfl rfl ?_
      refine j_isub dX11_lightHere_79 ?_
      refine j_iload dX11_lightHere_80 rfl ?_
      refine j_imul dX11_lightHere_82 ?_
      refine j_aload_n dX11_lightHere_83 rfl rfl ?_
      refine j_getR fl_RX11_47 sh_100 rfl dX11_lightHere_84 ?_
      refine j_iload_n dX11_lightHere_87 rfl rfl ?_
      refine j_iald sh_110 dX11_lightHere_88 (fun v22 => ?_)
      refine j_idiv dX11_lightHere_89 (fun v23 => ?_)
      refine j_iadd dX11_lightHere_90 ?_
      refine j_ltv (fun v24 => ?_)
      refine j_istore_nE (ls2 := [some (.inr (.inr 100)), some (.inl a1), some (.inl v1), some (.inl v24), some (.inl v5), none, none]) dX11_lightHere_91 rfl (by decide) rfl rfl ?_
      refine j_iconst dX11_lightHere_92 (inr_d rfl) ?_
      refine j_istoreE (ls2 := [some (.inr (.inr 100)), some (.inl a1), some (.inl v1), some (.inl v24), some (.inl v5), some (.inl 0), none]) dX11_lightHere_93 (by decide) rfl rfl ?_
      refine j_msk [true, false, true, true, false, true, false] (jLX11_lightHere_95 hq _ _ (fun y26 s25 => ?_) _ _ _ _)
      refine j_iload_n dX11_lightHere_187 rfl rfl ?_
      exact j_iret hq dX11_lightHere_188
abbrev rmX11_lightOf : Room := { frames := 2, cells := 0, slots := 0, locals := 48 }
theorem dX11_lightOf_0 : decode cX11_lightOf 0 = .ok (.aload_n 0, 1) := by decide +kernel
theorem dX11_lightOf_1 : decode cX11_lightOf 1 = .ok (.iload_n 1, 1) := by decide +kernel
theorem dX11_lightOf_2 : decode cX11_lightOf 2 = .ok (.invokevirtual 204, 3) := by decide +kernel
theorem dX11_lightOf_5 : decode cX11_lightOf 5 = .ok (.pop, 1) := by decide +kernel
theorem dX11_lightOf_6 : decode cX11_lightOf 6 = .ok (.aload_n 0, 1) := by decide +kernel
theorem dX11_lightOf_7 : decode cX11_lightOf 7 = .ok (.iload_n 2, 1) := by decide +kernel
theorem dX11_lightOf_8 : decode cX11_lightOf 8 = .ok (.invokevirtual 207, 3) := by decide +kernel
theorem dX11_lightOf_11 : decode cX11_lightOf 11 = .ok (.ireturn, 1) := by decide +kernel
def fX11_lightOf (a1 : Int) (a2 : Int) (s0 : Mem) : Option Res :=
 bnd (fX11_find a1 s0) (fun r1 s2 =>
 bnd (fX11_lightHere a2 s2) (fun r3 s4 =>
 some (r3, s4)))
set_option maxRecDepth 100000 in
set_option maxHeartbeats 4000000 in
theorem mX11_lightOf (l : Launch) (D : va_G) (ad : Nat → Nat) (cA : Nat → ClassId) (a1 : Int) (a2 : Int) (s0 : Mem) : MCi l D ad cA yX11_lightOf cX11_lightOf 3 (some .int) rmX11_lightOf [.inr (.inr 100), .inl a1, .inl a2] s0 (fX11_lightOf a1 a2 s0) := by
  refine MCi_ofE (own := RX11) (ls := [some (.inr (.inr 100)), some (.inl a1), some (.inl a2)]) 0 (by decide +kernel) rfl rfl (fun _ => Nat.le_of_ble_eq_true rfl) (fun K hq => ?_)
  unfold fX11_lightOf
  refine j_aload_n dX11_lightOf_0 rfl rfl ?_
  refine j_iload_n dX11_lightOf_1 rfl rfl ?_
  refine j_callVi (mX11_find (kl K) (kD K) (kad K) (kcA K) a1 s0) cw_RX11_204 sh_100 rfl ⟨rfl, rfl, by decide, by decide⟩ rfl rfl (Nat.le_of_ble_eq_true rfl) dX11_lightOf_2 (fun r1 s2 => ?_)
  refine j_pop dX11_lightOf_5 ?_
  refine j_aload_n dX11_lightOf_6 rfl rfl ?_
  refine j_iload_n dX11_lightOf_7 rfl rfl ?_
  refine j_callVi (mX11_lightHere (kl K) (kD K) (kad K) (kcA K) a2 s2) cw_RX11_207 sh_100 rfl ⟨rfl, rfl, by decide, by decide⟩ rfl rfl (Nat.le_of_ble_eq_true rfl) dX11_lightOf_8 (fun r3 s4 => ?_)
  exact j_iret hq dX11_lightOf_11
abbrev rmX11_light : Room := { frames := 2, cells := 0, slots := 0, locals := 48 }
theorem dX11_light_0 : decode cX11_light 0 = .ok (.iload_n 1, 1) := by decide +kernel
theorem dX11_light_1 : decode cX11_light 1 = .ok (.ifCond .lt 12, 3) := by decide +kernel
theorem dX11_light_4 : decode cX11_light 4 = .ok (.iload_n 2, 1) := by decide +kernel
theorem dX11_light_5 : decode cX11_light 5 = .ok (.iconst 0, 1) := by decide +kernel
theorem dX11_light_6 : decode cX11_light 6 = .ok (.iconst 2, 1) := by decide +kernel
theorem dX11_light_7 : decode cX11_light 7 = .ok (.invokestatic 125, 3) := by decide +kernel
theorem dX11_light_10 : decode cX11_light 10 = .ok (.ifCond .ne 5, 3) := by decide +kernel
theorem dX11_light_13 : decode cX11_light 13 = .ok (.iconst (-1), 1) := by decide +kernel
theorem dX11_light_14 : decode cX11_light 14 = .ok (.ireturn, 1) := by decide +kernel
theorem dX11_light_15 : decode cX11_light 15 = .ok (.aload_n 0, 1) := by decide +kernel
theorem dX11_light_16 : decode cX11_light 16 = .ok (.iload_n 1, 1) := by decide +kernel
theorem dX11_light_17 : decode cX11_light 17 = .ok (.invokevirtual 204, 3) := by decide +kernel
theorem dX11_light_20 : decode cX11_light 20 = .ok (.ifCond .eq 11, 3) := by decide +kernel
theorem dX11_light_23 : decode cX11_light 23 = .ok (.aload_n 0, 1) := by decide +kernel
theorem dX11_light_24 : decode cX11_light 24 = .ok (.iload_n 2, 1) := by decide +kernel
theorem dX11_light_25 : decode cX11_light 25 = .ok (.invokevirtual 207, 3) := by decide +kernel
theorem dX11_light_28 : decode cX11_light 28 = .ok (.goto 5, 3) := by decide +kernel
theorem dX11_light_31 : decode cX11_light 31 = .ok (.bipush (-2), 2) := by decide +kernel
theorem dX11_light_33 : decode cX11_light 33 = .ok (.ireturn, 1) := by decide +kernel
def fX11_light (a1 : Int) (a2 : Int) (s0 : Mem) : Option Res :=
 (if a1 < 0 then
 some ((-1), s0)
 else
 bnd (fX11_in a2 0 2 s0) (fun r1 s2 =>
 (if r1 ≠ 0 then
 bnd (fX11_find a1 s2) (fun r3 s4 =>
 (if r3 = 0 then
 some ((-2), s4)
 else
 bnd (fX11_lightHere a2 s4) (fun r5 s6 =>
 some (r5, s6))))
 else
 some ((-1), s2))))
set_option maxRecDepth 100000 in
set_option maxHeartbeats 4000000 in
theorem mX11_light (l : Launch) (D : va_G) (ad : Nat → Nat) (cA : Nat → ClassId) (a1 : Int) (a2 : Int) (s0 : Mem) : MCi l D ad cA yX11_light cX11_light 3 (some .int) rmX11_light [.inr (.inr 100), .inl a1, .inl a2] s0 (fX11_light a1 a2 s0) := by
  refine MCi_ofE (own := RX11) (ls := [some (.inr (.inr 100)), some (.inl a1), some (.inl a2)]) 0 (by decide +kernel) rfl rfl (fun _ => Nat.le_of_ble_eq_true rfl) (fun K hq => ?_)
  unfold fX11_light
  refine j_iload_n dX11_light_0 rfl rfl ?_
  refine j_if_lt (tgt := 13) dX11_light_1 rfl ?_ ?_
  · refine j_iconst dX11_light_13 (inr_d rfl) ?_
    exact j_iret hq dX11_light_14
  · refine j_iload_n dX11_light_4 rfl rfl ?_
    refine j_iconst dX11_light_5 (inr_d rfl) ?_
    refine j_iconst dX11_light_6 (inr_d rfl) ?_
    refine j_callSi (mX11_in (kl K) (kD K) (kad K) (kcA K) a2 0 2 s0) cw_RX11_125 ⟨rfl, rfl, by decide, by decide⟩ rfl rfl (Nat.le_of_ble_eq_true rfl) dX11_light_7 (fun r1 s2 => ?_)
    refine j_if_ne (tgt := 15) dX11_light_10 rfl ?_ ?_
    · refine j_aload_n dX11_light_15 rfl rfl ?_
      refine j_iload_n dX11_light_16 rfl rfl ?_
      refine j_callVi (mX11_find (kl K) (kD K) (kad K) (kcA K) a1 s2) cw_RX11_204 sh_100 rfl ⟨rfl, rfl, by decide, by decide⟩ rfl rfl (Nat.le_of_ble_eq_true rfl) dX11_light_17 (fun r3 s4 => ?_)
      refine j_if_eq (tgt := 31) dX11_light_20 rfl ?_ ?_
      · refine j_bipush (v := (-2)) dX11_light_31 (by decide +kernel) (inr_d rfl) ?_
        exact j_iret hq dX11_light_33
      · refine j_aload_n dX11_light_23 rfl rfl ?_
        refine j_iload_n dX11_light_24 rfl rfl ?_
        refine j_callVi (mX11_lightHere (kl K) (kD K) (kad K) (kcA K) a2 s4) cw_RX11_207 sh_100 rfl ⟨rfl, rfl, by decide, by decide⟩ rfl rfl (Nat.le_of_ble_eq_true rfl) dX11_light_25 (fun r5 s6 => ?_)
        refine j_goto (tgt := 33) dX11_light_28 rfl ?_
        exact j_iret hq dX11_light_33
    · refine j_iconst dX11_light_13 (inr_d rfl) ?_
      exact j_iret hq dX11_light_14
abbrev rmX11_shotOf : Room := { frames := 1, cells := 0, slots := 0, locals := 21 }
theorem dX11_shotOf_0 : decode cX11_shotOf 0 = .ok (.iload_n 1, 1) := by decide +kernel
theorem dX11_shotOf_1 : decode cX11_shotOf 1 = .ok (.ifCond .ge 5, 3) := by decide +kernel
theorem dX11_shotOf_4 : decode cX11_shotOf 4 = .ok (.iconst (-1), 1) := by decide +kernel
theorem dX11_shotOf_5 : decode cX11_shotOf 5 = .ok (.ireturn, 1) := by decide +kernel
theorem dX11_shotOf_6 : decode cX11_shotOf 6 = .ok (.aload_n 0, 1) := by decide +kernel
theorem dX11_shotOf_7 : decode cX11_shotOf 7 = .ok (.iload_n 1, 1) := by decide +kernel
theorem dX11_shotOf_8 : decode cX11_shotOf 8 = .ok (.invokevirtual 204, 3) := by decide +kernel
theorem dX11_shotOf_11 : decode cX11_shotOf 11 = .ok (.ifCond .eq 10, 3) := by decide +kernel
theorem dX11_shotOf_14 : decode cX11_shotOf 14 = .ok (.aload_n 0, 1) := by decide +kernel
theorem dX11_shotOf_15 : decode cX11_shotOf 15 = .ok (.getfield 201, 3) := by decide +kernel
theorem dX11_shotOf_18 : decode cX11_shotOf 18 = .ok (.goto 5, 3) := by decide +kernel
theorem dX11_shotOf_21 : decode cX11_shotOf 21 = .ok (.bipush (-2), 2) := by decide +kernel
theorem dX11_shotOf_23 : decode cX11_shotOf 23 = .ok (.ireturn, 1) := by decide +kernel
def fX11_shotOf (a1 : Int) (s0 : Mem) : Option Res :=
 (if 0 ≤ a1 then
 bnd (fX11_find a1 s0) (fun r1 s2 =>
 (if r1 = 0 then
 some ((-2), s2)
 else
 some (s2 100 35, s2)))
 else
 some ((-1), s0))
set_option maxRecDepth 100000 in
set_option maxHeartbeats 4000000 in
theorem mX11_shotOf (l : Launch) (D : va_G) (ad : Nat → Nat) (cA : Nat → ClassId) (a1 : Int) (s0 : Mem) : MCi l D ad cA yX11_shotOf cX11_shotOf 2 (some .int) rmX11_shotOf [.inr (.inr 100), .inl a1] s0 (fX11_shotOf a1 s0) := by
  refine MCi_ofE (own := RX11) (ls := [some (.inr (.inr 100)), some (.inl a1)]) 0 (by decide +kernel) rfl rfl (fun _ => Nat.le_of_ble_eq_true rfl) (fun K hq => ?_)
  unfold fX11_shotOf
  refine j_iload_n dX11_shotOf_0 rfl rfl ?_
  refine j_if_ge (tgt := 6) dX11_shotOf_1 rfl ?_ ?_
  · refine j_aload_n dX11_shotOf_6 rfl rfl ?_
    refine j_iload_n dX11_shotOf_7 rfl rfl ?_
    refine j_callVi (mX11_find (kl K) (kD K) (kad K) (kcA K) a1 s0) cw_RX11_204 sh_100 rfl ⟨rfl, rfl, by decide, by decide⟩ rfl rfl (Nat.le_of_ble_eq_true rfl) dX11_shotOf_8 (fun r1 s2 => ?_)
    refine j_if_eq (tgt := 21) dX11_shotOf_11 rfl ?_ ?_
    · refine j_bipush (v := (-2)) dX11_shotOf_21 (by decide +kernel) (inr_d rfl) ?_
      exact j_iret hq dX11_shotOf_23
    · refine j_aload_n dX11_shotOf_14 rfl rfl ?_
      refine j_getI fl_RX11_201 sh_100 rfl dX11_shotOf_15 ?_
      refine j_goto (tgt := 23) dX11_shotOf_18 rfl ?_
      exact j_iret hq dX11_shotOf_23
  · refine j_iconst dX11_shotOf_4 (inr_d rfl) ?_
    exact j_iret hq dX11_shotOf_5
