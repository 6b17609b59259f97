abbrev rmX11_drop : Room := { frames := 1, cells := 0, slots := 0, locals := 22 }
theorem dX11_drop_0 : decode cX11_drop 0 = .ok (.iload_n 1, 1) := by decide +kernel
theorem dX11_drop_1 : decode cX11_drop 1 = .ok (.iconst 0, 1) := by decide +kernel
theorem dX11_drop_2 : decode cX11_drop 2 = .ok (.aload_n 0, 1) := by decide +kernel
theorem dX11_drop_3 : decode cX11_drop 3 = .ok (.getfield 248, 3) := by decide +kernel
theorem dX11_drop_6 : decode cX11_drop 6 = .ok (.iconst 1, 1) := by decide +kernel
theorem dX11_drop_7 : decode cX11_drop 7 = .ok (.isub, 1) := by decide +kernel
theorem dX11_drop_8 : decode cX11_drop 8 = .ok (.invokestatic 125, 3) := by decide +kernel
theorem dX11_drop_11 : decode cX11_drop 11 = .ok (.ifCond .ne 5, 3) := by decide +kernel
theorem dX11_drop_14 : decode cX11_drop 14 = .ok (.iconst (-1), 1) := by decide +kernel
theorem dX11_drop_15 : decode cX11_drop 15 = .ok (.ireturn, 1) := by decide +kernel
theorem dX11_drop_16 : decode cX11_drop 16 = .ok (.iload_n 1, 1) := by decide +kernel
theorem dX11_drop_17 : decode cX11_drop 17 = .ok (.iconst 1, 1) := by decide +kernel
theorem dX11_drop_18 : decode cX11_drop 18 = .ok (.iadd, 1) := by decide +kernel
theorem dX11_drop_19 : decode cX11_drop 19 = .ok (.istore_n 2, 1) := by decide +kernel
theorem dX11_drop_20 : decode cX11_drop 20 = .ok (.iload_n 2, 1) := by decide +kernel
theorem dX11_drop_21 : decode cX11_drop 21 = .ok (.aload_n 0, 1) := by decide +kernel
theorem dX11_drop_22 : decode cX11_drop 22 = .ok (.getfield 248, 3) := by decide +kernel
theorem dX11_drop_25 : decode cX11_drop 25 = .ok (.if_icmp .ge 65, 3) := by decide +kernel
theorem dX11_drop_28 : decode cX11_drop 28 = .ok (.aload_n 0, 1) := by decide +kernel
theorem dX11_drop_29 : decode cX11_drop 29 = .ok (.getfield 110, 3) := by decide +kernel
theorem dX11_drop_32 : decode cX11_drop 32 = .ok (.iload_n 2, 1) := by decide +kernel
theorem dX11_drop_33 : decode cX11_drop 33 = .ok (.iconst 1, 1) := by decide +kernel
theorem dX11_drop_34 : decode cX11_drop 34 = .ok (.isub, 1) := by decide +kernel
theorem dX11_drop_35 : decode cX11_drop 35 = .ok (.aload_n 0, 1) := by decide +kernel
theorem dX11_drop_36 : decode cX11_drop 36 = .ok (.getfield 110, 3) := by decide +kernel
theorem dX11_drop_39 : decode cX11_drop 39 = .ok (.iload_n 2, 1) := by decide +kernel
theorem dX11_drop_40 : decode cX11_drop 40 = .ok (.iaload, 1) := by decide +kernel
theorem dX11_drop_41 : decode cX11_drop 41 = .ok (.iastore, 1) := by decide +kernel
theorem dX11_drop_42 : decode cX11_drop 42 = .ok (.aload_n 0, 1) := by decide +kernel
theorem dX11_drop_43 : decode cX11_drop 43 = .ok (.getfield 113, 3) := by decide +kernel
theorem dX11_drop_46 : decode cX11_drop 46 = .ok (.iload_n 2, 1) := by decide +kernel
theorem dX11_drop_47 : decode cX11_drop 47 = .ok (.iconst 1, 1) := by decide +kernel
theorem dX11_drop_48 : decode cX11_drop 48 = .ok (.isub, 1) := by decide +kernel
theorem dX11_drop_49 : decode cX11_drop 49 = .ok (.aload_n 0, 1) := by decide +kernel
theorem dX11_drop_50 : decode cX11_drop 50 = .ok (.getfield 113, 3) := by decide +kernel
theorem dX11_drop_53 : decode cX11_drop 53 = .ok (.iload_n 2, 1) := by decide +kernel
theorem dX11_drop_54 : decode cX11_drop 54 = .ok (.iaload, 1) := by decide +kernel
theorem dX11_drop_55 : decode cX11_drop 55 = .ok (.iastore, 1) := by decide +kernel
theorem dX11_drop_56 : decode cX11_drop 56 = .ok (.aload_n 0, 1) := by decide +kernel
theorem dX11_drop_57 : decode cX11_drop 57 = .ok (.getfield 116, 3) := by decide +kernel
theorem dX11_drop_60 : decode cX11_drop 60 = .ok (.iload_n 2, 1) := by decide +kernel
theorem dX11_drop_61 : decode cX11_drop 61 = .ok (.iconst 1, 1) := by decide +kernel
theorem dX11_drop_62 : decode cX11_drop 62 = .ok (.isub, 1) := by decide +kernel
theorem dX11_drop_63 : decode cX11_drop 63 = .ok (.aload_n 0, 1) := by decide +kernel
theorem dX11_drop_64 : decode cX11_drop 64 = .ok (.getfield 116, 3) := by decide +kernel
theorem dX11_drop_67 : decode cX11_drop 67 = .ok (.iload_n 2, 1) := by decide +kernel
theorem dX11_drop_68 : decode cX11_drop 68 = .ok (.iaload, 1) := by decide +kernel
theorem dX11_drop_69 : decode cX11_drop 69 = .ok (.iastore, 1) := by decide +kernel
theorem dX11_drop_70 : decode cX11_drop 70 = .ok (.aload_n 0, 1) := by decide +kernel
theorem dX11_drop_71 : decode cX11_drop 71 = .ok (.getfield 119, 3) := by decide +kernel
theorem dX11_drop_74 : decode cX11_drop 74 = .ok (.iload_n 2, 1) := by decide +kernel
theorem dX11_drop_75 : decode cX11_drop 75 = .ok (.iconst 1, 1) := by decide +kernel
theorem dX11_drop_76 : decode cX11_drop 76 = .ok (.isub, 1) := by decide +kernel
theorem dX11_drop_77 : decode cX11_drop 77 = .ok (.aload_n 0, 1) := by decide +kernel
theorem dX11_drop_78 : decode cX11_drop 78 = .ok (.getfield 119, 3) := by decide +kernel
theorem dX11_drop_81 : decode cX11_drop 81 = .ok (.iload_n 2, 1) := by decide +kernel
theorem dX11_drop_82 : decode cX11_drop 82 = .ok (.iaload, 1) := by decide +kernel
theorem dX11_drop_83 : decode cX11_drop 83 = .ok (.iastore, 1) := by decide +kernel
theorem dX11_drop_84 : decode cX11_drop 84 = .ok (.iinc 2 1, 3) := by decide +kernel
theorem dX11_drop_87 : decode cX11_drop 87 = .ok (.goto (-67), 3) := by decide +kernel
theorem dX11_drop_90 : decode cX11_drop 90 = .ok (.aload_n 0, 1) := by decide +kernel
theorem dX11_drop_91 : decode cX11_drop 91 = .ok (.dup, 1) := by decide +kernel
theorem dX11_drop_92 : decode cX11_drop 92 = .ok (.getfield 248, 3) := by decide +kernel
theorem dX11_drop_95 : decode cX11_drop 95 = .ok (.iconst 1, 1) := by decide +kernel
theorem dX11_drop_96 : decode cX11_drop 96 = .ok (.isub, 1) := by decide +kernel
theorem dX11_drop_97 : decode cX11_drop 97 = .ok (.putfield 248, 3) := by decide +kernel
theorem dX11_drop_100 : decode cX11_drop 100 = .ok (.aload_n 0, 1) := by decide +kernel
theorem dX11_drop_101 : decode cX11_drop 101 = .ok (.getfield 248, 3) := by decide +kernel
theorem dX11_drop_104 : decode cX11_drop 104 = .ok (.ireturn, 1) := by decide +kernel
def LX11_drop_20 (k90 : Mem → Option Res) : Nat → Int → Mem → Option Res
  | 0 => fun _ _ => none
  | n + 1 => fun x2 s => (if s 100 42 ≤ x2 then
 k90 s
 else
 rd (s 131) x2 8 (fun v4 =>
 ST s 131 (wr (x2 - 1)) 8 v4 (fun s5 =>
 rd (s5 132) x2 8 (fun v6 =>
 ST s5 132 (wr (x2 - 1)) 8 v6 (fun s7 =>
 rd (s7 133) x2 8 (fun v8 =>
 ST s7 133 (wr (x2 - 1)) 8 v8 (fun s9 =>
 rd (s9 134) x2 8 (fun v10 =>
 ST s9 134 (wr (x2 - 1)) 8 v10 (fun s11 =>
 LX11_drop_20 k90 n (wr (x2 + 1)) s11)))))))))
def fX11_drop (a1 : Int) (s0 : Mem) : Option Res :=
 bnd (fX11_in a1 0 (wr ((s0 100 42) - 1)) s0) (fun r1 s2 =>
 (if r1 ≠ 0 then
 lt (wr (a1 + 1)) (fun v3 =>
 LX11_drop_20 (fun s12 =>
 lt (up s12 100 42 (wr ((s12 100 42) - 1))) (fun s13 =>
 some (s13 100 42, s13))) FU v3 s2)
 else
 some ((-1), s2)))
set_option maxRecDepth 100000 in
set_option maxHeartbeats 4000000 in
theorem jLX11_drop_20 {K : KT} (hq : KI K (some .int)) (k90 : Mem → Option Res) (hk90 : ∀ (s : Mem), J K rmX11_drop cX11_drop RX11 3 90 [some (.inr (.inr 100)), none, none] [] s (k90 s)) : ∀ (n : Nat) (x2 : Int) (s : Mem), J K rmX11_drop cX11_drop RX11 3 20 [some (.inr (.inr 100)), none, some (.inl x2)] [] s (LX11_drop_20 k90 n x2 s) := by
  intro n
  induction n with
  | zero => intros; exact J_none
  | succ n ih =>
    intro x2 s
    show J K _ _ _ _ _ _ _ _ (LX11_drop_20 k90 (n + 1) x2 s)
    simp only [LX11_drop_20]
    refine j_iload_n dX11_drop_20 rfl rfl ?_
    refine j_aload_n dX11_drop_21 rfl rfl ?_
    refine j_getI fl_RX11_248 sh_100 rfl dX11_drop_22 ?_
    refine j_icmp_ge (tgt := 90) dX11_drop_25 rfl ?_ ?_
    · exact j_msk [true, false, false] (hk90 _)
    · refine j_aload_n dX11_drop_28 rfl rfl ?_
      refine j_getR fl_RX11_110 sh_100 rfl dX11_drop_29 ?_
      refine j_iload_n dX11_drop_32 rfl rfl ?_
      refine j_iconst dX11_drop_33 (inr_d rfl) ?_
      refine j_isub dX11_drop_34 ?_
      refine j_aload_n dX11_drop_35 rfl rfl ?_
      refine j_getR fl_RX11_110 sh_100 rfl dX11_drop_36 ?_
      refine j_iload_n dX11_drop_39 rfl rfl ?_
      refine j_iald sh_131 dX11_drop_40 (fun v4 => ?_)
      refine j_iast sh_131 dX11_drop_41 (fun s5 => ?_)
      refine j_aload_n dX11_drop_42 rfl rfl ?_
      refine j_getR fl_RX11_113 sh_100 rfl dX11_drop_43 ?_
      refine j_iload_n dX11_drop_46 rfl rfl ?_
      refine j_iconst dX11_drop_47 (inr_d rfl) ?_
      refine j_isub dX11_drop_48 ?_
      refine j_aload_n dX11_drop_49 rfl rfl ?_
      refine j_getR fl_RX11_113 sh_100 rfl dX11_drop_50 ?_
      refine j_iload_n dX11_drop_53 rfl rfl ?_
      refine j_iald sh_132 dX11_drop_54 (fun v6 => ?_)
      refine j_iast sh_132 dX11_drop_55 (fun s7 => ?_)
      refine j_aload_n dX11_drop_56 rfl rfl ?_
      refine j_getR fl_RX11_116 sh_100 rfl dX11_drop_57 ?_
      refine j_iload_n dX11_drop_60 rfl rfl ?_
      refine j_iconst dX11_drop_61 (inr_d rfl) ?_
      refine j_isub dX11_drop_62 ?_
      refine j_aload_n dX11_drop_63 rfl rfl ?_
      refine j_getR fl_RX11_116 sh_100 rfl dX11_drop_64 ?_
      refine j_iload_n dX11_drop_67 rfl rfl ?_
      refine j_iald sh_133 dX11_drop_68 (fun v8 => ?_)
      refine j_iast sh_133 dX11_drop_69 (fun s9 => ?_)
      refine j_aload_n dX11_drop_70 rfl rfl ?_
      refine j_getR fl_RX11_119 sh_100 rfl dX11_drop_71 ?_
      refine j_iload_n dX11_drop_74 rfl rfl ?_
      refine j_iconst dX11_drop_75 (inr_d rfl) ?_
      refine j_isub dX11_drop_76 ?_
      refine j_aload_n dX11_drop_77 rfl rfl ?_
      refine j_getR fl_RX11_119 sh_100 rfl dX11_drop_78 ?_
      refine j_iload_n dX11_drop_81 rfl rfl ?_
      refine j_iald sh_134 dX11_drop_82 (fun v10 => ?_)
      refine j_iast sh_134 dX11_drop_83 (fun s11 => ?_)
      refine j_iincE (ls2 := [some (.inr (.inr 100)), none, some (.inl (wr (x2 + 1)))]) dX11_drop_84 rfl (by decide) rfl rfl ?_
      refine j_goto (tgt := 20) dX11_drop_87 rfl ?_
      exact j_msk [true, false, true] (ih _ _)
set_option maxRecDepth 100000 in
set_option maxHeartbeats 4000000 in
theorem mX11_drop (l : Launch) (D : va_G) (ad : Nat → Nat) (cA : Nat → ClassId) (a1 : Int) (s0 : Mem) : MCi l D ad cA yX11_drop cX11_drop 3 (some .int) rmX11_drop [.inr (.inr 100), .inl a1] s0 (fX11_drop a1 s0) := by
  refine MCi_ofE (own := RX11) (ls := [some (.inr (.inr 100)), some (.inl a1), none]) 1 (by decide +kernel) rfl rfl (fun _ => Nat.le_of_ble_eq_true rfl) (fun K hq => ?_)
  unfold fX11_drop
  refine j_iload_n dX11_drop_0 rfl rfl ?_
  refine j_iconst dX11_drop_1 (inr_d rfl) ?_
  refine j_aload_n dX11_drop_2 rfl rfl ?_
  refine j_getI fl_RX11_248 sh_100 rfl dX11_drop_3 ?_
  refine j_iconst dX11_drop_6 (inr_d rfl) ?_
  refine j_isub dX11_drop_7 ?_
  refine j_callSi (mX11_in (kl K) (kD K) (kad K) (kcA K) a1 0 (wr ((s0 100 42) - 1)) s0) cw_RX11_125 ⟨rfl, rfl, by decide, by decide⟩ rfl rfl (Nat.le_of_ble_eq_true rfl) dX11_drop_8 (fun r1 s2 => ?_)
  refine j_if_ne (tgt := 16) dX11_drop_11 rfl ?_ ?_
  · refine j_iload_n dX11_drop_16 rfl rfl ?_
    refine j_iconst dX11_drop_17 (inr_d rfl) ?_
    refine j_iadd dX11_drop_18 ?_
    refine j_ltv (fun v3 => ?_)
    refine j_istore_nE (ls2 := [some (.inr (.inr 100)), some (.inl a1), some (.inl v3)]) dX11_drop_19 rfl (by decide) rfl rfl ?_
    refine j_msk [true, false, true] (jLX11_drop_20 hq _ (fun s12 => ?_) _ _ _)
    refine j_aload_n dX11_drop_90 rfl rfl ?_
    refine j_dup rfl dX11_drop_91 ?_
    refine j_getI fl_RX11_248 sh_100 rfl dX11_drop_92 ?_
    refine j_iconst dX11_drop_95 (inr_d rfl) ?_
    refine j_isub dX11_drop_96 ?_
    refine j_putI fp_RX11_248 sh_100 rfl dX11_drop_97 (fun s13 => ?_)
    refine j_aload_n dX11_drop_100 rfl rfl ?_
    refine j_getI fl_RX11_248 sh_100 rfl dX11_drop_101 ?_
    exact j_iret hq dX11_drop_104
  · refine j_iconst dX11_drop_14 (inr_d rfl) ?_
    exact j_iret hq dX11_drop_15
abbrev rmX11_lateBy : Room := { frames := 0, cells := 0, slots := 0, locals := 0 }
theorem dX11_lateBy_0 : decode cX11_lateBy 0 = .ok (.aload_n 0, 1) := by decide +kernel
theorem dX11_lateBy_1 : decode cX11_lateBy 1 = .ok (.getfield 110, 3) := by decide +kernel
theorem dX11_lateBy_4 : decode cX11_lateBy 4 = .ok (.iload_n 2, 1) := by decide +kernel
theorem dX11_lateBy_5 : decode cX11_lateBy 5 = .ok (.iaload, 1) := by decide +kernel
theorem dX11_lateBy_6 : decode cX11_lateBy 6 = .ok (.istore_n 3, 1) := by decide +kernel
theorem dX11_lateBy_7 : decode cX11_lateBy 7 = .ok (.iconst 0, 1) := by decide +kernel
theorem dX11_lateBy_8 : decode cX11_lateBy 8 = .ok (.istore 4, 2) := by decide +kernel
theorem dX11_lateBy_10 : decode cX11_lateBy 10 = .ok (.iload 4, 2) := by decide +kernel
theorem dX11_lateBy_12 : decode cX11_lateBy 12 = .ok (.aload_n 0, 1) := by decide +kernel
theorem dX11_lateBy_13 : decode cX11_lateBy 13 = .ok (.getfield 248, 3) := by decide +kernel
theorem dX11_lateBy_16 : decode cX11_lateBy 16 = .ok (.if_icmp .ge 33, 3) := by decide +kernel
theorem dX11_lateBy_19 : decode cX11_lateBy 19 = .ok (.iload_n 3, 1) := by decide +kernel
theorem dX11_lateBy_20 : decode cX11_lateBy 20 = .ok (.iload_n 1, 1) := by decide +kernel
theorem dX11_lateBy_21 : decode cX11_lateBy 21 = .ok (.iload 4, 2) := by decide +kernel
theorem dX11_lateBy_23 : decode cX11_lateBy 23 = .ok (.ishr, 1) := by decide +kernel
theorem dX11_lateBy_24 : decode cX11_lateBy 24 = .ok (.iconst 1, 1) := by decide +kernel
theorem dX11_lateBy_25 : decode cX11_lateBy 25 = .ok (.iand, 1) := by decide +kernel
theorem dX11_lateBy_26 : decode cX11_lateBy 26 = .ok (.iconst 1, 1) := by decide +kernel
theorem dX11_lateBy_27 : decode cX11_lateBy 27 = .ok (.if_icmp .ne 13, 3) := by decide +kernel
theorem dX11_lateBy_30 : decode cX11_lateBy 30 = .ok (.aload_n 0, 1) := by decide +kernel
theorem dX11_lateBy_31 : decode cX11_lateBy 31 = .ok (.getfield 110, 3) := by decide +kernel
theorem dX11_lateBy_34 : decode cX11_lateBy 34 = .ok (.iload 4, 2) := by decide +kernel
theorem dX11_lateBy_36 : decode cX11_lateBy 36 = .ok (.iaload, 1) := by decide +kernel
theorem dX11_lateBy_37 : decode cX11_lateBy 37 = .ok (.goto 4, 3) := by decide +kernel
theorem dX11_lateBy_40 : decode cX11_lateBy 40 = .ok (.iconst 0, 1) := by decide +kernel
theorem dX11_lateBy_41 : decode cX11_lateBy 41 = .ok (.iadd, 1) := by decide +kernel
theorem dX11_lateBy_42 : decode cX11_lateBy 42 = .ok (.istore_n 3, 1) := by decide +kernel
theorem dX11_lateBy_43 : decode cX11_lateBy 43 = .ok (.iinc 4 1, 3) := by decide +kernel
theorem dX11_lateBy_46 : decode cX11_lateBy 46 = .ok (.goto (-36), 3) := by decide +kernel
theorem dX11_lateBy_49 : decode cX11_lateBy 49 = .ok (.iload_n 3, 1) := by decide +kernel
theorem dX11_lateBy_50 : decode cX11_lateBy 50 = .ok (.aload_n 0, 1) := by decide +kernel
theorem dX11_lateBy_51 : decode cX11_lateBy 51 = .ok (.getfield 113, 3) := by decide +kernel
theorem dX11_lateBy_54 : decode cX11_lateBy 54 = .ok (.iload_n 2, 1) := by decide +kernel
theorem dX11_lateBy_55 : decode cX11_lateBy 55 = .ok (.iaload, 1) := by decide +kernel
theorem dX11_lateBy_56 : decode cX11_lateBy 56 = .ok (.if_icmp .le 21, 3) := by decide +kernel
theorem dX11_lateBy_59 : decode cX11_lateBy 59 = .ok (.aload_n 0, 1) := by decide +kernel
theorem dX11_lateBy_60 : decode cX11_lateBy 60 = .ok (.getfield 116, 3) := by decide +kernel
theorem dX11_lateBy_63 : decode cX11_lateBy 63 = .ok (.iload_n 2, 1) := by decide +kernel
theorem dX11_lateBy_64 : decode cX11_lateBy 64 = .ok (.iaload, 1) := by decide +kernel
theorem dX11_lateBy_65 : decode cX11_lateBy 65 = .ok (.iload_n 3, 1) := by decide +kernel
theorem dX11_lateBy_66 : decode cX11_lateBy 66 = .ok (.aload_n 0, 1) := by decide +kernel
theorem dX11_lateBy_67 : decode cX11_lateBy 67 = .ok (.getfield 113, 3) := by decide +kernel
theorem dX11_lateBy_70 : decode cX11_lateBy 70 = .ok (.iload_n 2, 1) := by decide +kernel
theorem dX11_lateBy_71 : decode cX11_lateBy 71 = .ok (.iaload, 1) := by decide +kernel
theorem dX11_lateBy_72 : decode cX11_lateBy 72 = .ok (.isub, 1) := by decide +kernel
theorem dX11_lateBy_73 : decode cX11_lateBy 73 = .ok (.imul, 1) := by decide +kernel
theorem dX11_lateBy_74 : decode cX11_lateBy 74 = .ok (.goto 4, 3) := by decide +kernel
theorem dX11_lateBy_77 : decode cX11_lateBy 77 = .ok (.iconst 0, 1) := by decide +kernel
theorem dX11_lateBy_78 : decode cX11_lateBy 78 = .ok (.aload_n 0, 1) := by decide +kernel
theorem dX11_lateBy_79 : decode cX11_lateBy 79 = .ok (.getfield 122, 3) := by decide +kernel
theorem dX11_lateBy_82 : decode cX11_lateBy 82 = .ok (.iload_n 1, 1) := by decide +kernel
theorem dX11_lateBy_83 : decode cX11_lateBy 83 = .ok (.iconst 1, 1) := by decide +kernel
theorem dX11_lateBy_84 : decode cX11_lateBy 84 = .ok (.iload_n 2, 1) := by decide +kernel
theorem dX11_lateBy_85 : decode cX11_lateBy 85 = .ok (.ishl, 1) := by decide +kernel
theorem dX11_lateBy_86 : decode cX11_lateBy 86 = .ok (.ior, 1) := by decide +kernel
theorem dX11_lateBy_87 : decode cX11_lateBy 87 = .ok (.iaload, 1) := by decide +kernel
theorem dX11_lateBy_88 : decode cX11_lateBy 88 = .ok (.iadd, 1) := by decide +kernel
theorem dX11_lateBy_89 : decode cX11_lateBy 89 = .ok (.ireturn, 1) := by decide +kernel
def LX11_lateBy_10 (c1 : Int) (c2 : Int) (k49 : Int → Mem → Option Res) : Nat → Int → Int → Mem → Option Res
  | 0 => fun _ _ _ => none
  | n + 1 => fun x3 x4 s => (if s 100 42 ≤ x4 then
 k49 x3 s
 else
 (if ian (isr c1 x4) 1 ≠ 1 then
 lt (wr (x3 + 0)) (fun v2 =>
 LX11_lateBy_10 c1 c2 k49 n v2 (wr (x4 + 1)) s)
 else
 rd (s 131) x4 8 (fun v3 =>
 lt (wr (x3 + v3)) (fun v4 =>
 LX11_lateBy_10 c1 c2 k49 n v4 (wr (x4 + 1)) s))))
def fX11_lateBy (a1 : Int) (a2 : Int) (s0 : Mem) : Option Res :=
 rd (s0 131) a2 8 (fun v1 =>
 LX11_lateBy_10 a1 a2 (fun y6 s5 =>
 rd (s5 132) a2 8 (fun v7 =>
 jn (fun (u8 : Int) (s9 : Mem) =>
 rd (s9 135) (iir a1 (ish 1 a2)) 256 (fun v10 =>
 some (wr (u8 + v10), s9))) (fun k78 =>
 (if y6 ≤ v7 then
 k78 0 s5
 else
 rd (s5 133) a2 8 (fun v11 =>
 rd (s5 132) a2 8 (fun v12 =>
 k78 (wr (v11 * (wr (y6 - v12)))) s5)))))) FU v1 0 s0)
set_option maxRecDepth 100000 in
set_option maxHeartbeats 4000000 in
theorem jLX11_lateBy_10 {K : KT} (hq : KI K (some .int)) (c1 : Int) (c2 : Int) (k49 : Int → Mem → Option Res) (hk49 : ∀ (y3 : Int) (s : Mem), J K rmX11_lateBy cX11_lateBy RX11 5 49 [some (.inr (.inr 100)), some (.inl c1), some (.inl c2), some (.inl y3), none] [] s (k49 y3 s)) : ∀ (n : Nat) (x3 : Int) (x4 : Int) (s : Mem), J K rmX11_lateBy cX11_lateBy RX11 5 10 [some (.inr (.inr 100)), some (.inl c1), some (.inl c2), some (.inl x3), some (.inl x4)] [] s (LX11_lateBy_10 c1 c2 k49 n x3 x4 s) := by
  intro n
  induction n with
  | zero => intros; exact J_none
  | succ n ih =>
    intro x3 x4 s
    show J K _ _ _ _ _ _ _ _ (LX11_lateBy_10 c1 c2 k49 (n + 1) x3 x4 s)
    simp only [LX11_lateBy_10]
    refine j_iload dX11_lateBy_10 rfl ?_
    refine j_aload_n dX11_lateBy_12 rfl rfl ?_
    refine j_getI fl_RX11_248 sh_100 rfl dX11_lateBy_13 ?_
    refine j_icmp_ge (tgt := 49) dX11_lateBy_16 rfl ?_ ?_
    · exact j_msk [true, true, true, true, false] (hk49 _ _)
    · refine j_iload_n dX11_lateBy_19 rfl rfl ?_
      refine j_iload_n dX11_lateBy_20 rfl rfl ?_
      refine j_iload dX11_lateBy_21 rfl ?_
      refine j_ishr dX11_lateBy_23 ?_
      refine j_iconst dX11_lateBy_24 (inr_d rfl) ?_
      refine j_iand dX11_lateBy_25 ?_
      refine j_iconst dX11_lateBy_26 (inr_d rfl) ?_
      refine j_icmp_ne (tgt := 40) dX11_lateBy_27 rfl ?_ ?_
      · refine j_iconst dX11_lateBy_40 (inr_d rfl) ?_
        refine j_iadd dX11_lateBy_41 ?_
        refine j_ltv (fun v2 => ?_)
        refine j_istore_nE (ls2 := [some (.inr (.inr 100)), some (.inl c1), some (.inl c2), some (.inl v2), some (.inl x4)]) dX11_lateBy_42 rfl (by decide) rfl rfl ?_
        refine j_iincE (ls2 := [some (.inr (.inr 100)), some (.inl c1), some (.inl c2), some (.inl v2), some (.inl (wr (x4 + 1)))]) dX11_lateBy_43 rfl (by decide) rfl rfl ?_
        refine j_goto (tgt := 10) dX11_lateBy_46 rfl ?_
        exact j_msk [true, true, true, true, true] (ih _ _ _)
      · refine j_aload_n dX11_lateBy_30 rfl rfl ?_
        refine j_getR fl_RX11_110 sh_100 rfl dX11_lateBy_31 ?_
        refine j_iload dX11_lateBy_34 rfl ?_
        refine j_iald sh_131 dX11_lateBy_36 (fun v3 => ?_)
        refine j_goto (tgt := 41) dX11_lateBy_37 rfl ?_
        refine j_iadd dX11_lateBy_41 ?_
        refine j_ltv (fun v4 => ?_)
        refine j_istore_nE (ls2 := [some (.inr (.inr 100)), some (.inl c1), some (.inl c2), some (.inl v4), some (.inl x4)]) dX11_lateBy_42 rfl (by decide) rfl rfl ?_
        refine j_iincE (ls2 := [some (.inr (.inr 100)), some (.inl c1), some (.inl c2), some (.inl v4), some (.inl (wr (x4 + 1)))]) dX11_lateBy_43 rfl (by decide) rfl rfl ?_
        refine j_goto (tgt := 10) dX11_lateBy_46 rfl ?_
        exact j_msk [true, true, true, true, true] (ih _ _ _)
set_option maxRecDepth 100000 in
set_option maxHeartbeats 4000000 in
theorem mX11_lateBy (l : Launch) (D : va_G) (ad : Nat → Nat) (cA : Nat → ClassId) (a1 : Int) (a2 : Int) (s0 : Mem) : MCi l D ad cA yX11_lateBy cX11_lateBy 5 (some .int) rmX11_lateBy [.inr (.inr 100), .inl a1, .inl a2] s0 (fX11_lateBy a1 a2 s0) := by
  refine MCi_ofE (own := RX11) (ls := [some (.inr (.inr 100)), some (.inl a1), some (.inl a2), none, none]) 2 (by decide +kernel) rfl rfl (fun _ => Nat.le_of_ble_eq_true rfl) (fun K hq => ?_)
  unfold fX11_lateBy
  refine j_aload_n dX11_lateBy_0 rfl rfl ?_
  refine j_getR fl_RX11_110 sh_100 rfl dX11_lateBy_1 ?_
  refine j_iload_n dX11_lateBy_4 rfl rfl ?_
  refine j_iald sh_131 dX11_lateBy_5 (fun v1 => ?_)
  refine j_istore_nE (ls2 := [some (.inr (.inr 100)), some (.inl a1), some (.inl a2), some (.inl v1), none]) dX11_lateBy_6 rfl (by decide) rfl rfl ?_
  refine j_iconst dX11_lateBy_7 (inr_d rfl) ?_
  refine j_istoreE (ls2 := [some (.inr (.inr 100)), some (.inl a1), some (.inl a2), some (.inl v1), some (.inl 0)]) dX11_lateBy_8 (by decide) rfl rfl ?_
  refine j_msk [true, true, true, true, true] (jLX11_lateBy_10 hq _ _ _ (fun y6 s5 => ?_) _ _ _ _)
  refine j_iload_n dX11_lateBy_49 rfl rfl ?_
  refine j_aload_n dX11_lateBy_50 rfl rfl ?_
  refine j_getR fl_RX11_113 sh_100 rfl dX11_lateBy_51 ?_
  refine j_iload_n dX11_lateBy_54 rfl rfl ?_
  refine j_iald sh_132 dX11_lateBy_55 (fun v7 => ?_)
  refine j_jn (fun k78 => ∀ (u8 : Int) (s9 : Mem), J K rmX11_lateBy cX11_lateBy RX11 5 78 [some (.inr (.inr 100)), some (.inl a1), some (.inl a2), none, none] [.inl u8] s9 (k78 u8 s9)) (fun u8 s9 => ?_) (fun k78 hk78 => ?_)
  · refine j_aload_n dX11_lateBy_78 rfl rfl ?_
    refine j_getR fl_RX11_122 sh_100 rfl dX11_lateBy_79 ?_
    refine j_iload_n dX11_lateBy_82 rfl rfl ?_
    refine j_iconst dX11_lateBy_83 (inr_d rfl) ?_
    refine j_iload_n dX11_lateBy_84 rfl rfl ?_
    refine j_ishl dX11_lateBy_85 ?_
    refine j_ior dX11_lateBy_86 ?_
    refine j_iald sh_135 dX11_lateBy_87 (fun v10 => ?_)
    refine j_iadd dX11_lateBy_88 ?_
    exact j_iret hq dX11_lateBy_89
  refine j_icmp_le (tgt := 77) dX11_lateBy_56 rfl ?_ ?_
  · refine j_iconst dX11_lateBy_77 (inr_d rfl) ?_
    exact j_msk [true, true, true, false, false] (hk78 _ _)
  · refine j_aload_n dX11_lateBy_59 rfl rfl ?_
    refine j_getR fl_RX11_116 sh_100 rfl dX11_lateBy_60 ?_
    refine j_iload_n dX11_lateBy_63 rfl rfl ?_
    refine j_iald sh_133 dX11_lateBy_64 (fun v11 => ?_)
    refine j_iload_n dX11_lateBy_65 rfl rfl ?_
    refine j_aload_n dX11_lateBy_66 rfl rfl ?_
    refine j_getR fl_RX11_113 sh_100 rfl dX11_lateBy_67 ?_
    refine j_iload_n dX11_lateBy_70 rfl rfl ?_
    refine j_iald sh_132 dX11_lateBy_71 (fun v12 => ?_)
    refine j_isub dX11_lateBy_72 ?_
    refine j_imul dX11_lateBy_73 ?_
    refine j_goto (tgt := 78) dX11_lateBy_74 rfl ?_
    exact j_msk [true, true, true, false, false] (hk78 _ _)
abbrev rmX11_layLate : Room := { frames := 1, cells := 0, slots := 0, locals := 24 }
theorem dX11_layLate_0 : decode cX11_layLate 0 = .ok (.iload_n 1, 1) := by decide +kernel
theorem dX11_layLate_1 : decode cX11_layLate 1 = .ok (.istore_n 2, 1) := by decide +kernel
theorem dX11_layLate_2 : decode cX11_layLate 2 = .ok (.iload_n 2, 1) := by decide +kernel
theorem dX11_layLate_3 : decode cX11_layLate 3 = .ok (.ifCond .lt 95, 3) := by decide +kernel
theorem dX11_layLate_6 : decode cX11_layLate 6 = .ok (.iload_n 2, 1) := by decide +kernel
theorem dX11_layLate_7 : decode cX11_layLate 7 = .ok (.iload_n 1, 1) := by decide +kernel
theorem dX11_layLate_8 : decode cX11_layLate 8 = .ok (.iconst (-1), 1) := by decide +kernel
theorem dX11_layLate_9 : decode cX11_layLate 9 = .ok (.ixor, 1) := by decide +kernel
theorem dX11_layLate_10 : decode cX11_layLate 10 = .ok (.iand, 1) := by decide +kernel
theorem dX11_layLate_11 : decode cX11_layLate 11 = .ok (.ifCond .ne 81, 3) := by decide +kernel
theorem dX11_layLate_14 : decode cX11_layLate 14 = .ok (.iload_n 2, 1) := by decide +kernel
theorem dX11_layLate_15 : decode cX11_layLate 15 = .ok (.iload_n 1, 1) := by decide +kernel
theorem dX11_layLate_16 : decode cX11_layLate 16 = .ok (.if_icmp .ne 7, 3) := by decide +kernel
theorem dX11_layLate_19 : decode cX11_layLate 19 = .ok (.iconst 0, 1) := by decide +kernel
theorem dX11_layLate_20 : decode cX11_layLate 20 = .ok (.goto 5, 3) := by decide +kernel
theorem dX11_layLate_23 : decode cX11_layLate 23 = .ok (.ldc 251, 2) := by decide +kernel
theorem dX11_layLate_25 : decode cX11_layLate 25 = .ok (.istore_n 3, 1) := by decide +kernel
theorem dX11_layLate_26 : decode cX11_layLate 26 = .ok (.iconst 0, 1) := by decide +kernel
theorem dX11_layLate_27 : decode cX11_layLate 27 = .ok (.istore 4, 2) := by decide +kernel
theorem dX11_layLate_29 : decode cX11_layLate 29 = .ok (.iload 4, 2) := by decide +kernel
theorem dX11_layLate_31 : decode cX11_layLate 31 = .ok (.aload_n 0, 1) := by decide +kernel
theorem dX11_layLate_32 : decode cX11_layLate 32 = .ok (.getfield 248, 3) := by decide +kernel
theorem dX11_layLate_35 : decode cX11_layLate 35 = .ok (.if_icmp .ge 50, 3) := by decide +kernel
theorem dX11_layLate_38 : decode cX11_layLate 38 = .ok (.iload_n 1, 1) := by decide +kernel
theorem dX11_layLate_39 : decode cX11_layLate 39 = .ok (.iload 4, 2) := by decide +kernel
theorem dX11_layLate_41 : decode cX11_layLate 41 = .ok (.ishr, 1) := by decide +kernel
theorem dX11_layLate_42 : decode cX11_layLate 42 = .ok (.iconst 1, 1) := by decide +kernel
theorem dX11_layLate_43 : decode cX11_layLate 43 = .ok (.iand, 1) := by decide +kernel
theorem dX11_layLate_44 : decode cX11_layLate 44 = .ok (.iconst 1, 1) := by decide +kernel
theorem dX11_layLate_45 : decode cX11_layLate 45 = .ok (.if_icmp .ne 34, 3) := by decide +kernel
theorem dX11_layLate_48 : decode cX11_layLate 48 = .ok (.iload_n 2, 1) := by decide +kernel
theorem dX11_layLate_49 : decode cX11_layLate 49 = .ok (.iload 4, 2) := by decide +kernel
theorem dX11_layLate_51 : decode cX11_layLate 51 = .ok (.ishr, 1) := by decide +kernel
theorem dX11_layLate_52 : decode cX11_layLate 52 = .ok (.iconst 1, 1) := by decide +kernel
theorem dX11_layLate_53 : decode cX11_layLate 53 = .ok (.iand, 1) := by decide +kernel
theorem dX11_layLate_54 : decode cX11_layLate 54 = .ok (.ifCond .ne 25, 3) := by decide +kernel
theorem dX11_layLate_57 : decode cX11_layLate 57 = .ok (.aload_n 0, 1) := by decide +kernel
theorem dX11_layLate_58 : decode cX11_layLate 58 = .ok (.iload_n 2, 1) := by decide +kernel
theorem dX11_layLate_59 : decode cX11_layLate 59 = .ok (.iload 4, 2) := by decide +kernel
theorem dX11_layLate_61 : decode cX11_layLate 61 = .ok (.invokevirtual 252, 3) := by decide +kernel
theorem dX11_layLate_64 : decode cX11_layLate 64 = .ok (.istore 5, 2) := by decide +kernel
theorem dX11_layLate_66 : decode cX11_layLate 66 = .ok (.iload 5, 2) := by decide +kernel
theorem dX11_layLate_68 : decode cX11_layLate 68 = .ok (.iload_n 3, 1) := by decide +kernel
theorem dX11_layLate_69 : decode cX11_layLate 69 = .ok (.if_icmp .ge 8, 3) := by decide +kernel
theorem dX11_layLate_72 : decode cX11_layLate 72 = .ok (.iload 5, 2) := by decide +kernel
theorem dX11_layLate_74 : decode cX11_layLate 74 = .ok (.goto 4, 3) := by decide +kernel
theorem dX11_layLate_77 : decode cX11_layLate 77 = .ok (.iload_n 3, 1) := by decide +kernel
theorem dX11_layLate_78 : decode cX11_layLate 78 = .ok (.istore_n 3, 1) := by decide +kernel
theorem dX11_layLate_79 : decode cX11_layLate 79 = .ok (.iinc 4 1, 3) := by decide +kernel
theorem dX11_layLate_82 : decode cX11_layLate 82 = .ok (.goto (-53), 3) := by decide +kernel
theorem dX11_layLate_85 : decode cX11_layLate 85 = .ok (.aload_n 0, 1) := by decide +kernel
theorem dX11_layLate_86 : decode cX11_layLate 86 = .ok (.getfield 122, 3) := by decide +kernel
theorem dX11_layLate_89 : decode cX11_layLate 89 = .ok (.iload_n 2, 1) := by decide +kernel
theorem dX11_layLate_90 : decode cX11_layLate 90 = .ok (.iload_n 3, 1) := by decide +kernel
theorem dX11_layLate_91 : decode cX11_layLate 91 = .ok (.iastore, 1) := by decide +kernel
theorem dX11_layLate_92 : decode cX11_layLate 92 = .ok (.iinc 2 (-1), 3) := by decide +kernel
theorem dX11_layLate_95 : decode cX11_layLate 95 = .ok (.goto (-93), 3) := by decide +kernel
theorem dX11_layLate_98 : decode cX11_layLate 98 = .ok (.aload_n 0, 1) := by decide +kernel
theorem dX11_layLate_99 : decode cX11_layLate 99 = .ok (.getfield 122, 3) := by decide +kernel
theorem dX11_layLate_102 : decode cX11_layLate 102 = .ok (.iconst 0, 1) := by decide +kernel
theorem dX11_layLate_103 : decode cX11_layLate 103 = .ok (.iaload, 1) := by decide +kernel
theorem dX11_layLate_104 : decode cX11_layLate 104 = .ok (.ireturn, 1) := by decide +kernel
def LX11_layLate_29 (c1 : Int) (c2 : Int) (k85 : Int → Mem → Option Res) : Nat → Int → Int → Mem → Option Res
  | 0 => fun _ _ _ => none
  | n + 1 => fun x3 x4 s => (if s 100 42 ≤ x4 then
 k85 x3 s
 else
 (if ian (isr c1 x4) 1 ≠ 1 then
 LX11_layLate_29 c1 c2 k85 n x3 (wr (x4 + 1)) s
 else
 (if ian (isr c2 x4) 1 ≠ 0 then
 LX11_layLate_29 c1 c2 k85 n x3 (wr (x4 + 1)) s
 else
 bnd (fX11_lateBy c2 x4 s) (fun r1 s2 =>
 (if x3 ≤ r1 then
 LX11_layLate_29 c1 c2 k85 n x3 (wr (x4 + 1)) s2
 else
 LX11_layLate_29 c1 c2 k85 n r1 (wr (x4 + 1)) s2)))))
def LX11_layLate_2 (c1 : Int) (k98 : Mem → Option Res) : Nat → Int → Mem → Option Res
  | 0 => fun _ _ => none
  | n + 1 => fun x2 s => (if x2 < 0 then
 k98 s
 else
 (if ian x2 (ixo c1 (-1)) ≠ 0 then
 LX11_layLate_2 c1 k98 n (wr (x2 + (-1))) s
 else
 (if x2 ≠ c1 then
 LX11_layLate_29 c1 x2 (fun y4 s3 =>
 ST s3 135 x2 256 y4 (fun s5 =>
 LX11_layLate_2 c1 k98 n (wr (x2 + (-1))) s5)) FU 1000000000 0 s
 else
 LX11_layLate_29 c1 x2 (fun y7 s6 =>
 ST s6 135 x2 256 y7 (fun s8 =>
 LX11_layLate_2 c1 k98 n (wr (x2 + (-1))) s8)) FU 0 0 s)))
def fX11_layLate (a1 : Int) (s0 : Mem) : Option Res :=
 LX11_layLate_2 a1 (fun s9 =>
 rd (s9 135) 0 256 (fun v10 =>
 some (v10, s9))) FU a1 s0
set_option maxRecDepth 100000 in
set_option maxHeartbeats 4000000 in
theorem jLX11_layLate_29 {K : KT} (hq : KI K (some .int)) (c1 : Int) (c2 : Int) (k85 : Int → Mem → Option Res) (hk85 : ∀ (y3 : Int) (s : Mem), J K rmX11_layLate cX11_layLate RX11 6 85 [some (.inr (.inr 100)), some (.inl c1), some (.inl c2), some (.inl y3), none, none] [] s (k85 y3 s)) : ∀ (n : Nat) (x3 : Int) (x4 : Int) (s : Mem), J K rmX11_layLate cX11_layLate RX11 6 29 [some (.inr (.inr 100)), some (.inl c1), some (.inl c2), some (.inl x3), some (.inl x4), none] [] s (LX11_layLate_29 c1 c2 k85 n x3 x4 s) := by
  intro n
  induction n with
  | zero => intros; exact J_none
  | succ n ih =>
    intro x3 x4 s
    show J K _ _ _ _ _ _ _ _ (LX11_layLate_29 c1 c2 k85 (n + 1) x3 x4 s)
    simp only [LX11_layLate_29]
    refine j_iload dX11_layLate_29 rfl ?_
    refine j_aload_n dX11_layLate_31 rfl rfl ?_
    refine j_getI fl_RX11_248 sh_100 rfl dX11_layLate_32 ?_
    refine j_icmp_ge (tgt := 85) dX11_layLate_35 rfl ?_ ?_
    · exact j_msk [true, true, true, true, false, false] (hk85 _ _)
    · refine j_iload_n dX11_layLate_38 rfl rfl ?_
      refine j_iload dX11_layLate_39 rfl ?_
      refine j_ishr dX11_layLate_41 ?_
      refine j_iconst dX11_layLate_42 (inr_d rfl) ?_
      refine j_iand dX11_layLate_43 ?_
      refine j_iconst dX11_layLate_44 (inr_d rfl) ?_
      refine j_icmp_ne (tgt := 79) dX11_layLate_45 rfl ?_ ?_
      · refine j_iincE (ls2 := [some (.inr (.inr 100)), some (.inl c1), some (.inl c2), some (.inl x3), some (.inl (wr (x4 + 1))), none]) dX11_layLate_79 rfl (by decide) rfl rfl ?_
        refine j_goto (tgt := 29) dX11_layLate_82 rfl ?_
        exact j_msk [true, true, true, true, true, false] (ih _ _ _)
      · refine j_iload_n dX11_layLate_48 rfl rfl ?_
        refine j_iload dX11_layLate_49 rfl ?_
        refine j_ishr dX11_layLate_51 ?_
        refine j_iconst dX11_layLate_52 (inr_d rfl) ?_
        refine j_iand dX11_layLate_53 ?_
        refine j_if_ne (tgt := 79) dX11_layLate_54 rfl ?_ ?_
        · refine j_iincE (ls2 := [some (.inr (.inr 100)), some (.inl c1), some (.inl c2), some (.inl x3), some (.inl (wr (x4 + 1))), none]) dX11_layLate_79 rfl (by decide) rfl rfl ?_
          refine j_goto (tgt := 29) dX11_layLate_82 rfl ?_
          exact j_msk [true, true, true, true, true, false] (ih _ _ _)
        · refine j_aload_n dX11_layLate_57 rfl rfl ?_
          refine j_iload_n dX11_layLate_58 rfl rfl ?_
          refine j_iload dX11_layLate_59 rfl ?_
          refine j_callVi (mX11_lateBy (kl K) (kD K) (kad K) (kcA K) c2 x4 s) cw_RX11_252 sh_100 rfl ⟨rfl, rfl, by decide, by decide⟩ rfl rfl (Nat.le_of_ble_eq_true rfl) dX11_layLate_61 (fun r1 s2 => ?_)
          refine j_istoreE (ls2 := [some (.inr (.inr 100)), some (.inl c1), some (.inl c2), some (.inl x3), some (.inl x4), some (.inl r1)]) dX11_layLate_64 (by decide) rfl rfl ?_
          refine j_iload dX11_layLate_66 rfl ?_
          refine j_iload_n dX11_layLate_68 rfl rfl ?_
          refine j_icmp_ge (tgt := 77) dX11_layLate_69 rfl ?_ ?_
          · refine j_iload_n dX11_layLate_77 rfl rfl ?_
            refine j_istore_nE (ls2 := [some (.inr (.inr 100)), some (.inl c1), some (.inl c2), some (.inl x3), some (.inl x4), some (.inl r1)]) dX11_layLate_78 rfl (by decide) rfl rfl ?_
            refine j_iincE (ls2 := [some (.inr (.inr 100)), some (.inl c1), some (.inl c2), some (.inl x3), some (.inl (wr (x4 + 1))), some (.inl r1)]) dX11_layLate_79 rfl (by decide) rfl rfl ?_
            refine j_goto (tgt := 29) dX11_layLate_82 rfl ?_
            exact j_msk [true, true, true, true, true, false] (ih _ _ _)
          · refine j_iload dX11_layLate_72 rfl ?_
            refine j_goto (tgt := 78) dX11_layLate_74 rfl ?_
            refine j_istore_nE (ls2 := [some (.inr (.inr 100)), some (.inl c1), some (.inl c2), some (.inl r1), some (.inl x4), some (.inl r1)]) dX11_layLate_78 rfl (by decide) rfl rfl ?_
            refine j_iincE (ls2 := [some (.inr (.inr 100)), some (.inl c1), some (.inl c2), some (.inl r1), some (.inl (wr (x4 + 1))), some (.inl r1)]) dX11_layLate_79 rfl (by decide) rfl rfl ?_
            refine j_goto (tgt := 29) dX11_layLate_82 rfl ?_
            exact j_msk [true, true, true, true, true, false] (ih _ _ _)
set_option maxRecDepth 100000 in
set_option maxHeartbeats 4000000 in
theorem jLX11_layLate_2 {K : KT} (hq : KI K (some .int)) (c1 : Int) (k98 : Mem → Option Res) (hk98 : ∀ (s : Mem), J K rmX11_layLate cX11_layLate RX11 6 98 [some (.inr (.inr 100)), none, none, none, none, none] [] s (k98 s)) : ∀ (n : Nat) (x2 : Int) (s : Mem), J K rmX11_layLate cX11_layLate RX11 6 2 [some (.inr (.inr 100)), some (.inl c1), some (.inl x2), none, none, none] [] s (LX11_layLate_2 c1 k98 n x2 s) := by
  intro n
  induction n with
  | zero => intros; exact J_none
  | succ n ih =>
    intro x2 s
    show J K _ _ _ _ _ _ _ _ (LX11_layLate_2 c1 k98 (n + 1) x2 s)
    simp only [LX11_layLate_2]
    refine j_iload_n dX11_layLate_2 rfl rfl ?_
    refine j_if_lt (tgt := 98) dX11_layLate_3 rfl ?_ ?_
    · exact j_msk [true, false, false, false, false, false] (hk98 _)
    · refine j_iload_n dX11_layLate_6 rfl rfl ?_
      refine j_iload_n dX11_layLate_7 rfl rfl ?_
      refine j_iconst dX11_layLate_8 (inr_d rfl) ?_
      refine j_ixor dX11_layLate_9 ?_
      refine j_iand dX11_layLate_10 ?_
      refine j_if_ne (tgt := 92) dX11_layLate_11 rfl ?_ ?_
      · refine j_iincE (ls2 := [some (.inr (.inr 100)), some (.inl c1), some (.inl (wr (x2 + (-1)))), none, none, none]) dX11_layLate_92 rfl (by decide) rfl rfl ?_
        refine j_goto (tgt := 2) dX11_layLate_95 rfl ?_
        exact j_msk [true, true, true, false, false, false] (ih _ _)
      · refine j_iload_n dX11_layLate_14 rfl rfl ?_
        refine j_iload_n dX11_layLate_15 rfl rfl ?_
        refine j_icmp_ne (tgt := 23) dX11_layLate_16 rfl ?_ ?_
        · refine j_ldc (v := 1000000000) dX11_layLate_23 cst_RX11_251 (inr_d rfl) ?_
          refine j_istore_nE (ls2 := [some (.inr (.inr 100)), some (.inl c1), some (.inl x2), some (.inl 1000000000), none, none]) dX11_layLate_25 rfl (by decide) rfl rfl ?_
          refine j_iconst dX11_layLate_26 (inr_d rfl) ?_
          refine j_istoreE (ls2 := [some (.inr (.inr 100)), some (.inl c1), some (.inl x2), some (.inl 1000000000), some (.inl 0), none]) dX11_layLate_27 (by decide) rfl rfl ?_
          refine j_msk [true, true, true, true, true, false] (jLX11_layLate_29 hq _ _ _ (fun y4 s3 => ?_) _ _ _ _)
          refine j_aload_n dX11_layLate_85 rfl rfl ?_
          refine j_getR fl_RX11_122 sh_100 rfl dX11_layLate_86 ?_
          refine j_iload_n dX11_layLate_89 rfl rfl ?_
          refine j_iload_n dX11_layLate_90 rfl rfl ?_
          refine j_iast sh_135 dX11_layLate_91 (fun s5 => ?_)
          refine j_iincE (ls2 := [some (.inr (.inr 100)), some (.inl c1), some (.inl (wr (x2 + (-1)))), some (.inl y4), none, none]) dX11_layLate_92 rfl (by decide) rfl rfl ?_
          refine j_goto (tgt := 2) dX11_layLate_95 rfl ?_
          exact j_msk [true, true, true, false, false, false] (ih _ _)
        · refine j_iconst dX11_layLate_19 (inr_d rfl) ?_
          refine j_goto (tgt := 25) dX11_layLate_20 rfl ?_
          refine j_istore_nE (ls2 := [some (.inr (.inr 100)), some (.inl c1), some (.inl x2), some (.inl 0), none, none]) dX11_layLate_25 rfl (by decide) rfl rfl ?_
          refine j_iconst dX11_layLate_26 (inr_d rfl) ?_
          refine j_istoreE (ls2 := [some (.inr (.inr 100)), some (.inl c1), some (.inl x2), some (.inl 0), some (.inl 0), none]) dX11_layLate_27 (by decide) rfl rfl ?_
          refine j_msk [true, true, true, true, true, false] (jLX11_layLate_29 hq _ _ _ (fun y7 s6 => ?_) _ _ _ _)
          refine j_aload_n dX11_layLate_85 rfl rfl ?_
          refine j_getR fl_RX11_122 sh_100 rfl dX11_layLate_86 ?_
          refine j_iload_n dX11_layLate_89 rfl rfl ?_
          refine j_iload_n dX11_layLate_90 rfl rfl ?_
          refine j_iast sh_135 dX11_layLate_91 (fun s8 => ?_)
          refine j_iincE (ls2 := [some (.inr (.inr 100)), some (.inl c1), some (.inl (wr (x2 + (-1)))), some (.inl y7), none, none]) dX11_layLate_92 rfl (by decide) rfl rfl ?_
          refine j_goto (tgt := 2) dX11_layLate_95 rfl ?_
          exact j_msk [true, true, true, false, false, false] (ih _ _)
set_option maxRecDepth 100000 in
set_option maxHeartbeats 4000000 in
theorem mX11_layLate (l : Launch) (D : va_G) (ad : Nat → Nat) (cA : Nat → ClassId) (a1 : Int) (s0 : Mem) : MCi l D ad cA yX11_layLate cX11_layLate 6 (some .int) rmX11_layLate [.inr (.inr 100), .inl a1] s0 (fX11_layLate a1 s0) := by
  refine MCi_ofE (own := RX11) (ls := [some (.inr (.inr 100)), some (.inl a1), none, none, none, none]) 4 (by decide +kernel) rfl rfl (fun _ => Nat.le_of_ble_eq_true rfl) (fun K hq => ?_)
  unfold fX11_layLate
  refine j_iload_n dX11_layLate_0 rfl rfl ?_
  refine j_istore_nE (ls2 := [some (.inr (.inr 100)), some (.inl a1), some (.inl a1), none, none, none]) dX11_layLate_1 rfl (by decide) rfl rfl ?_
  refine j_msk [true, true, true, false, false, false] (jLX11_layLate_2 hq _ _ (fun s9 => ?_) _ _ _)
  refine j_aload_n dX11_layLate_98 rfl rfl ?_
  refine j_getR fl_RX11_122 sh_100 rfl dX11_layLate_99 ?_
  refine j_iconst dX11_layLate_102 (inr_d rfl) ?_
  refine j_iald sh_135 dX11_layLate_103 (fun v10 => ?_)
  exact j_iret hq dX11_layLate_104
abbrev rmX11_setOf : Room := { frames := 0, cells := 0, slots := 0, locals := 0 }
theorem dX11_setOf_0 : decode cX11_setOf 0 = .ok (.iconst 0, 1) := by decide +kernel
theorem dX11_setOf_1 : decode cX11_setOf 1 = .ok (.istore_n 3, 1) := by decide +kernel
theorem dX11_setOf_2 : decode cX11_setOf 2 = .ok (.iconst 0, 1) := by decide +kernel
theorem dX11_setOf_3 : decode cX11_setOf 3 = .ok (.istore 4, 2) := by decide +kernel
theorem dX11_setOf_5 : decode cX11_setOf 5 = .ok (.iload 4, 2) := by decide +kernel
theorem dX11_setOf_7 : decode cX11_setOf 7 = .ok (.aload_n 0, 1) := by decide +kernel
theorem dX11_setOf_8 : decode cX11_setOf 8 = .ok (.getfield 248, 3) := by decide +kernel
theorem dX11_setOf_11 : decode cX11_setOf 11 = .ok (.if_icmp .ge 35, 3) := by decide +kernel
theorem dX11_setOf_14 : decode cX11_setOf 14 = .ok (.iload_n 3, 1) := by decide +kernel
theorem dX11_setOf_15 : decode cX11_setOf 15 = .ok (.iload_n 1, 1) := by decide +kernel
theorem dX11_setOf_16 : decode cX11_setOf 16 = .ok (.aload_n 0, 1) := by decide +kernel
theorem dX11_setOf_17 : decode cX11_setOf 17 = .ok (.getfield 119, 3) := by decide +kernel
theorem dX11_setOf_20 : decode cX11_setOf 20 = .ok (.iload 4, 2) := by decide +kernel
theorem dX11_setOf_22 : decode cX11_setOf 22 = .ok (.iaload, 1) := by decide +kernel
theorem dX11_setOf_23 : decode cX11_setOf 23 = .ok (.ishr, 1) := by decide +kernel
theorem dX11_setOf_24 : decode cX11_setOf 24 = .ok (.iconst 1, 1) := by decide +kernel
theorem dX11_setOf_25 : decode cX11_setOf 25 = .ok (.iand, 1) := by decide +kernel
theorem dX11_setOf_26 : decode cX11_setOf 26 = .ok (.iload_n 2, 1) := by decide +kernel
theorem dX11_setOf_27 : decode cX11_setOf 27 = .ok (.if_icmp .ne 10, 3) := by decide +kernel
theorem dX11_setOf_30 : decode cX11_setOf 30 = .ok (.iconst 1, 1) := by decide +kernel
theorem dX11_setOf_31 : decode cX11_setOf 31 = .ok (.iload 4, 2) := by decide +kernel
theorem dX11_setOf_33 : decode cX11_setOf 33 = .ok (.ishl, 1) := by decide +kernel
theorem dX11_setOf_34 : decode cX11_setOf 34 = .ok (.goto 4, 3) := by decide +kernel
theorem dX11_setOf_37 : decode cX11_setOf 37 = .ok (.iconst 0, 1) := by decide +kernel
theorem dX11_setOf_38 : decode cX11_setOf 38 = .ok (.ior, 1) := by decide +kernel
theorem dX11_setOf_39 : decode cX11_setOf 39 = .ok (.istore_n 3, 1) := by decide +kernel
theorem dX11_setOf_40 : decode cX11_setOf 40 = .ok (.iinc 4 1, 3) := by decide +kernel
theorem dX11_setOf_43 : decode cX11_setOf 43 = .ok (.goto (-38), 3) := by decide +kernel
theorem dX11_setOf_46 : decode cX11_setOf 46 = .ok (.iload_n 3, 1) := by decide +kernel
theorem dX11_setOf_47 : decode cX11_setOf 47 = .ok (.ireturn, 1) := by decide +kernel
def LX11_setOf_5 (c1 : Int) (c2 : Int) (k46 : Int → Mem → Option Res) : Nat → Int → Int → Mem → Option Res
  | 0 => fun _ _ _ => none
  | n + 1 => fun x3 x4 s => (if s 100 42 ≤ x4 then
 k46 x3 s
 else
 rd (s 134) x4 8 (fun v1 =>
 (if ian (isr c1 v1) 1 ≠ c2 then
 lt (iir x3 0) (fun v2 =>
 LX11_setOf_5 c1 c2 k46 n v2 (wr (x4 + 1)) s)
 else
 lt (iir x3 (ish 1 x4)) (fun v3 =>
 LX11_setOf_5 c1 c2 k46 n v3 (wr (x4 + 1)) s))))
def fX11_setOf (a1 : Int) (a2 : Int) (s0 : Mem) : Option Res :=
 LX11_setOf_5 a1 a2 (fun y5 s4 =>
 some (y5, s4)) FU 0 0 s0
set_option maxRecDepth 100000 in
set_option maxHeartbeats 4000000 in
theorem jLX11_setOf_5 {K : KT} (hq : KI K (some .int)) (c1 : Int) (c2 : Int) (k46 : Int → Mem → Option Res) (hk46 : ∀ (y3 : Int) (s : Mem), J K rmX11_setOf cX11_setOf RX11 5 46 [none, none, none, some (.inl y3), none] [] s (k46 y3 s)) : ∀ (n : Nat) (x3 : Int) (x4 : Int) (s : Mem), J K rmX11_setOf cX11_setOf RX11 5 5 [some (.inr (.inr 100)), some (.inl c1), some (.inl c2), some (.inl x3), some (.inl x4)] [] s (LX11_setOf_5 c1 c2 k46 n x3 x4 s) := by
  intro n
  induction n with
  | zero => intros; exact J_none
  | succ n ih =>
    intro x3 x4 s
    show J K _ _ _ _ _ _ _ _ (LX11_setOf_5 c1 c2 k46 (n + 1) x3 x4 s)
    simp only [LX11_setOf_5]
    refine j_iload dX11_setOf_5 rfl ?_
    refine j_aload_n dX11_setOf_7 rfl rfl ?_
    refine j_getI fl_RX11_248 sh_100 rfl dX11_setOf_8 ?_
    refine j_icmp_ge (tgt := 46) dX11_setOf_11 rfl ?_ ?_
    · exact j_msk [false, false, false, true, false] (hk46 _ _)
    · refine j_iload_n dX11_setOf_14 rfl rfl ?_
      refine j_iload_n dX11_setOf_15 rfl rfl ?_
      refine j_aload_n dX11_setOf_16 rfl rfl ?_
      refine j_getR fl_RX11_119 sh_100 rfl dX11_setOf_17 ?_
      refine j_iload dX11_setOf_20 rfl ?_
      refine j_iald sh_134 dX11_setOf_22 (fun v1 => ?_)
      refine j_ishr dX11_setOf_23 ?_
      refine j_iconst dX11_setOf_24 (inr_d rfl) ?_
      refine j_iand dX11_setOf_25 ?_
      refine j_iload_n dX11_setOf_26 rfl rfl ?_
      refine j_icmp_ne (tgt := 37) dX11_setOf_27 rfl ?_ ?_
      · refine j_iconst dX11_setOf_37 (inr_d rfl) ?_
        refine j_ior dX11_setOf_38 ?_
        refine j_ltv (fun v2 => ?_)
        refine j_istore_nE (ls2 := [some (.inr (.inr 100)), some (.inl c1), some (.inl c2), some (.inl v2), some (.inl x4)]) dX11_setOf_39 rfl (by decide) rfl rfl ?_
        refine j_iincE (ls2 := [some (.inr (.inr 100)), some (.inl c1), some (.inl c2), some (.inl v2), some (.inl (wr (x4 + 1)))]) dX11_setOf_40 rfl (by decide) rfl rfl ?_
        refine j_goto (tgt := 5) dX11_setOf_43 rfl ?_
        exact j_msk [true, true, true, true, true] (ih _ _ _)
      · refine j_iconst dX11_setOf_30 (inr_d rfl) ?_
        refine j_iload dX11_setOf_31 rfl ?_
        refine j_ishl dX11_setOf_33 ?_
        refine j_goto (tgt := 38) dX11_setOf_34 rfl ?_
        refine j_ior dX11_setOf_38 ?_
        refine j_ltv (fun v3 => ?_)
        refine j_istore_nE (ls2 := [some (.inr (.inr 100)), some (.inl c1), some (.inl c2), some (.inl v3), some (.inl x4)]) dX11_setOf_39 rfl (by decide) rfl rfl ?_
        refine j_iincE (ls2 := [some (.inr (.inr 100)), some (.inl c1), some (.inl c2), some (.inl v3), some (.inl (wr (x4 + 1)))]) dX11_setOf_40 rfl (by decide) rfl rfl ?_
        refine j_goto (tgt := 5) dX11_setOf_43 rfl ?_
        exact j_msk [true, true, true, true, true] (ih _ _ _)
set_option maxRecDepth 100000 in
set_option maxHeartbeats 4000000 in
theorem mX11_setOf (l : Launch) (D : va_G) (ad : Nat → Nat) (cA : Nat → ClassId) (a1 : Int) (a2 : Int) (s0 : Mem) : MCi l D ad cA yX11_setOf cX11_setOf 5 (some .int) rmX11_setOf [.inr (.inr 100), .inl a1, .inl a2] s0 (fX11_setOf a1 a2 s0) := by
  refine MCi_ofE (own := RX11) (ls := [some (.inr (.inr 100)), some (.inl a1), some (.inl a2), none, none]) 2 (by decide +kernel) rfl rfl (fun _ => Nat.le_of_ble_eq_true rfl) (fun K hq => ?_)
  unfold fX11_setOf
  refine j_iconst dX11_setOf_0 (inr_d rfl) ?_
  refine j_istore_nE (ls2 := [some (.inr (.inr 100)), some (.inl a1), some (.inl a2), some (.inl 0), none]) dX11_setOf_1 rfl (by decide) rfl rfl ?_
  refine j_iconst dX11_setOf_2 (inr_d rfl) ?_
  refine j_istoreE (ls2 := [some (.inr (.inr 100)), some (.inl a1), some (.inl a2), some (.inl 0), some (.inl 0)]) dX11_setOf_3 (by decide) rfl rfl ?_
  refine j_msk [true, true, true, true, true] (jLX11_setOf_5 hq _ _ _ (fun y5 s4 => ?_) _ _ _ _)
  refine j_iload_n dX11_setOf_46 rfl rfl ?_
  exact j_iret hq dX11_setOf_47
abbrev rmX11_layBest : Room := { frames := 2, cells := 0, slots := 0, locals := 49 }
theorem dX11_layBest_0 : decode cX11_layBest 0 = .ok (.ldc 251, 2) := by decide +kernel
theorem dX11_layBest_2 : decode cX11_layBest 2 = .ok (.istore_n 1, 1) := by decide +kernel
theorem dX11_layBest_3 : decode cX11_layBest 3 = .ok (.iconst 0, 1) := by decide +kernel
theorem dX11_layBest_4 : decode cX11_layBest 4 = .ok (.istore_n 2, 1) := by decide +kernel
theorem dX11_layBest_5 : decode cX11_layBest 5 = .ok (.iload_n 2, 1) := by decide +kernel
theorem dX11_layBest_6 : decode cX11_layBest 6 = .ok (.bipush 64, 2) := by decide +kernel
theorem dX11_layBest_8 : decode cX11_layBest 8 = .ok (.if_icmp .ge 45, 3) := by decide +kernel
theorem dX11_layBest_11 : decode cX11_layBest 11 = .ok (.aload_n 0, 1) := by decide +kernel
theorem dX11_layBest_12 : decode cX11_layBest 12 = .ok (.aload_n 0, 1) := by decide +kernel
theorem dX11_layBest_13 : decode cX11_layBest 13 = .ok (.iload_n 2, 1) := by decide +kernel
theorem dX11_layBest_14 : decode cX11_layBest 14 = .ok (.iconst 0, 1) := by decide +kernel
theorem dX11_layBest_15 : decode cX11_layBest 15 = .ok (.invokevirtual 255, 3) := by decide +kernel
theorem dX11_layBest_18 : decode cX11_layBest 18 = .ok (.invokevirtual 258, 3) := by decide +kernel
theorem dX11_layBest_21 : decode cX11_layBest 21 = .ok (.istore_n 3, 1) := by decide +kernel
theorem dX11_layBest_22 : decode cX11_layBest 22 = .ok (.iload_n 3, 1) := by decide +kernel
theorem dX11_layBest_23 : decode cX11_layBest 23 = .ok (.aload_n 0, 1) := by decide +kernel
theorem dX11_layBest_24 : decode cX11_layBest 24 = .ok (.aload_n 0, 1) := by decide +kernel
theorem dX11_layBest_25 : decode cX11_layBest 25 = .ok (.iload_n 2, 1) := by decide +kernel
theorem dX11_layBest_26 : decode cX11_layBest 26 = .ok (.iconst 1, 1) := by decide +kernel
theorem dX11_layBest_27 : decode cX11_layBest 27 = .ok (.invokevirtual 255, 3) := by decide +kernel
theorem dX11_layBest_30 : decode cX11_layBest 30 = .ok (.invokevirtual 258, 3) := by decide +kernel
theorem dX11_layBest_33 : decode cX11_layBest 33 = .ok (.iadd, 1) := by decide +kernel
theorem dX11_layBest_34 : decode cX11_layBest 34 = .ok (.istore_n 3, 1) := by decide +kernel
theorem dX11_layBest_35 : decode cX11_layBest 35 = .ok (.iload_n 3, 1) := by decide +kernel
theorem dX11_layBest_36 : decode cX11_layBest 36 = .ok (.iload_n 1, 1) := by decide +kernel
theorem dX11_layBest_37 : decode cX11_layBest 37 = .ok (.if_icmp .ge 10, 3) := by decide +kernel
theorem dX11_layBest_40 : decode cX11_layBest 40 = .ok (.iload_n 3, 1) := by decide +kernel
theorem dX11_layBest_41 : decode cX11_layBest 41 = .ok (.istore_n 1, 1) := by decide +kernel
theorem dX11_layBest_42 : decode cX11_layBest 42 = .ok (.aload_n 0, 1) := by decide +kernel
theorem dX11_layBest_43 : decode cX11_layBest 43 = .ok (.iload_n 2, 1) := by decide +kernel
theorem dX11_layBest_44 : decode cX11_layBest 44 = .ok (.putfield 261, 3) := by decide +kernel
theorem dX11_layBest_47 : decode cX11_layBest 47 = .ok (.iinc 2 1, 3) := by decide +kernel
theorem dX11_layBest_50 : decode cX11_layBest 50 = .ok (.goto (-45), 3) := by decide +kernel
theorem dX11_layBest_53 : decode cX11_layBest 53 = .ok (.iload_n 1, 1) := by decide +kernel
theorem dX11_layBest_54 : decode cX11_layBest 54 = .ok (.ireturn, 1) := by decide +kernel
def LX11_layBest_5 (k53 : Int → Mem → Option Res) : Nat → Int → Int → Mem → Option Res
  | 0 => fun _ _ _ => none
  | n + 1 => fun x1 x2 s => (if 64 ≤ x2 then
 k53 x1 s
 else
 bnd (fX11_setOf x2 0 s) (fun r1 s2 =>
 bnd (fX11_layLate r1 s2) (fun r3 s4 =>
 bnd (fX11_setOf x2 1 s4) (fun r5 s6 =>
 bnd (fX11_layLate r5 s6) (fun r7 s8 =>
 lt (wr (r3 + r7)) (fun v9 =>
 (if x1 ≤ v9 then
 LX11_layBest_5 k53 n x1 (wr (x2 + 1)) s8
 else
 lt (up s8 100 48 x2) (fun s10 =>
 LX11_layBest_5 k53 n v9 (wr (x2 + 1)) s10))))))))
def fX11_layBest (s0 : Mem) : Option Res :=
 LX11_layBest_5 (fun y12 s11 =>
 some (y12, s11)) FU 1000000000 0 s0
set_option maxRecDepth 100000 in
set_option maxHeartbeats 4000000 in
theorem jLX11_layBest_5 {K : KT} (hq : KI K (some .int)) (k53 : Int → Mem → Option Res) (hk53 : ∀ (y1 : Int) (s : Mem), J K rmX11_layBest cX11_layBest RX11 4 53 [none, some (.inl y1), none, none] [] s (k53 y1 s)) : ∀ (n : Nat) (x1 : Int) (x2 : Int) (s : Mem), J K rmX11_layBest cX11_layBest RX11 4 5 [some (.inr (.inr 100)), some (.inl x1), some (.inl x2), none] [] s (LX11_layBest_5 k53 n x1 x2 s) := by
  intro n
  induction n with
  | zero => intros; exact J_none
  | succ n ih =>
    intro x1 x2 s
    show J K _ _ _ _ _ _ _ _ (LX11_layBest_5 k53 (n + 1) x1 x2 s)
    simp only [LX11_layBest_5]
    refine j_iload_n dX11_layBest_5 rfl rfl ?_
    refine j_bipush (v := 64) dX11_layBest_6 (by decide +kernel) (inr_d rfl) ?_
    refine j_icmp_ge (tgt := 53) dX11_layBest_8 rfl ?_ ?_
    · exact j_msk [false, true, false, false] (hk53 _ _)
    · refine j_aload_n dX11_layBest_11 rfl rfl ?_
      refine j_aload_n dX11_layBest_12 rfl rfl ?_
      refine j_iload_n dX11_layBest_13 rfl rfl ?_
      refine j_iconst dX11_layBest_14 (inr_d rfl) ?_
      refine j_callVi (mX11_setOf (kl K) (kD K) (kad K) (kcA K) x2 0 s) cw_RX11_255 sh_100 rfl ⟨rfl, rfl, by decide, by decide⟩ rfl rfl (Nat.le_of_ble_eq_true rfl) dX11_layBest_15 (fun r1 s2 => ?_)
      refine j_callVi (mX11_layLate (kl K) (kD K) (kad K) (kcA K) r1 s2) cw_RX11_258 sh_100 rfl ⟨rfl, rfl, by decide, by decide⟩ rfl rfl (Nat.le_of_ble_eq_true rfl) dX11_layBest_18 (fun r3 s4 => ?_)
      refine j_istore_nE (ls2 := [some (.inr (.inr 100)), some (.inl x1), some (.inl x2), some (.inl r3)]) dX11_layBest_21 rfl (by decide) rfl rfl ?_
      refine j_iload_n dX11_layBest_22 rfl rfl ?_
      refine j_aload_n dX11_layBest_23 rfl rfl ?_
      refine j_aload_n dX11_layBest_24 rfl rfl ?_
      refine j_iload_n dX11_layBest_25 rfl rfl ?_
      refine j_iconst dX11_layBest_26 (inr_d rfl) ?_
      refine j_callVi (mX11_setOf (kl K) (kD K) (kad K) (kcA K) x2 1 s4) cw_RX11_255 sh_100 rfl ⟨rfl, rfl, by decide, by decide⟩ rfl rfl (Nat.le_of_ble_eq_true rfl) dX11_layBest_27 (fun r5 s6 => ?_)
      refine j_callVi (mX11_layLate (kl K) (kD K) (kad K) (kcA K) r5 s6) cw_RX11_258 sh_100 rfl ⟨rfl, rfl, by decide, by decide⟩ rfl rfl (Nat.le_of_ble_eq_true rfl) dX11_layBest_30 (fun r7 s8 => ?_)
      refine j_iadd dX11_layBest_33 ?_
      refine j_ltv (fun v9 => ?_)
      refine j_istore_nE (ls2 := [some (.inr (.inr 100)), some (.inl x1), some (.inl x2), some (.inl v9)]) dX11_layBest_34 rfl (by decide) rfl rfl ?_
      refine j_iload_n dX11_layBest_35 rfl rfl ?_
      refine j_iload_n dX11_layBest_36 rfl rfl ?_
      refine j_icmp_ge (tgt := 47) dX11_layBest_37 rfl ?_ ?_
      · refine j_iincE (ls2 := [some (.inr (.inr 100)), some (.inl x1), some (.inl (wr (x2 + 1))), some (.inl v9)]) dX11_layBest_47 rfl (by decide) rfl rfl ?_
        refine j_goto (tgt := 5) dX11_layBest_50 rfl ?_
        exact j_msk [true, true, true, false] (ih _ _ _)
      · refine j_iload_n dX11_layBest_40 rfl rfl ?_
        refine j_istore_nE (ls2 := [some (.inr (.inr 100)), some (.inl v9), some (.inl x2), some (.inl v9)]) dX11_layBest_41 rfl (by decide) rfl rfl ?_
        refine j_aload_n dX11_layBest_42 rfl rfl ?_
        refine j_iload_n dX11_layBest_43 rfl rfl ?_
        refine j_putI fp_RX11_261 sh_100 rfl dX11_layBest_44 (fun s10 => ?_)
        refine j_iincE (ls2 := [some (.inr (.inr 100)), some (.inl v9), some (.inl (wr (x2 + 1))), some (.inl v9)]) dX11_layBest_47 rfl (by decide) rfl rfl ?_
        refine j_goto (tgt := 5) dX11_layBest_50 rfl ?_
        exact j_msk [true, true, true, false] (ih _ _ _)
set_option maxRecDepth 100000 in
set_option maxHeartbeats 4000000 in
theorem mX11_layBest (l : Launch) (D : va_G) (ad : Nat → Nat) (cA : Nat → ClassId) (s0 : Mem) : MCi l D ad cA yX11_layBest cX11_layBest 4 (some .int) rmX11_layBest [.inr (.inr 100)] s0 (fX11_layBest s0) := by
  refine MCi_ofE (own := RX11) (ls := [some (.inr (.inr 100)), none, none, none]) 3 (by decide +kernel) rfl rfl (fun _ => Nat.le_of_ble_eq_true rfl) (fun K hq => ?_)
  unfold fX11_layBest
  refine j_ldc (v := 1000000000) dX11_layBest_0 cst_RX11_251 (inr_d rfl) ?_
  refine j_istore_nE (ls2 := [some (.inr (.inr 100)), some (.inl 1000000000), none, none]) dX11_layBest_2 rfl (by decide) rfl rfl ?_
  refine j_iconst dX11_layBest_3 (inr_d rfl) ?_
  refine j_istore_nE (ls2 := [some (.inr (.inr 100)), some (.inl 1000000000), some (.inl 0), none]) dX11_layBest_4 rfl (by decide) rfl rfl ?_
  refine j_msk [true, true, true, false] (jLX11_layBest_5 hq _ (fun y12 s11 => ?_) _ _ _ _)
  refine j_iload_n dX11_layBest_53 rfl rfl ?_
  exact j_iret hq dX11_layBest_54
abbrev rmX11_ones : Room := { frames := 0, cells := 0, slots := 0, locals := 0 }
theorem dX11_ones_0 : decode cX11_ones 0 = .ok (.iconst 0, 1) := by decide +kernel
theorem dX11_ones_1 : decode cX11_ones 1 = .ok (.istore_n 1, 1) := by decide +kernel
theorem dX11_ones_2 : decode cX11_ones 2 = .ok (.iconst 0, 1) := by decide +kernel
theorem dX11_ones_3 : decode cX11_ones 3 = .ok (.istore_n 2, 1) := by decide +kernel
theorem dX11_ones_4 : decode cX11_ones 4 = .ok (.iload_n 2, 1) := by decide +kernel
theorem dX11_ones_5 : decode cX11_ones 5 = .ok (.bipush 8, 2) := by decide +kernel
theorem dX11_ones_7 : decode cX11_ones 7 = .ok (.if_icmp .ge 17, 3) := by decide +kernel
theorem dX11_ones_10 : decode cX11_ones 10 = .ok (.iload_n 1, 1) := by decide +kernel
theorem dX11_ones_11 : decode cX11_ones 11 = .ok (.iload_n 0, 1) := by decide +kernel
theorem dX11_ones_12 : decode cX11_ones 12 = .ok (.iload_n 2, 1) := by decide +kernel
theorem dX11_ones_13 : decode cX11_ones 13 = .ok (.ishr, 1) := by decide +kernel
theorem dX11_ones_14 : decode cX11_ones 14 = .ok (.iconst 1, 1) := by decide +kernel
theorem dX11_ones_15 : decode cX11_ones 15 = .ok (.iand, 1) := by decide +kernel
theorem dX11_ones_16 : decode cX11_ones 16 = .ok (.iadd, 1) := by decide +kernel
theorem dX11_ones_17 : decode cX11_ones 17 = .ok (.istore_n 1, 1) := by decide +kernel
theorem dX11_ones_18 : decode cX11_ones 18 = .ok (.iinc 2 1, 3) := by decide +kernel
theorem dX11_ones_21 : decode cX11_ones 21 = .ok (.goto (-17), 3) := by decide +kernel
theorem dX11_ones_24 : decode cX11_ones 24 = .ok (.iload_n 1, 1) := by decide +kernel
theorem dX11_ones_25 : decode cX11_ones 25 = .ok (.ireturn, 1) := by decide +kernel
def LX11_ones_4 (c0 : Int) (k24 : Int → Mem → Option Res) : Nat → Int → Int → Mem → Option Res
  | 0 => fun _ _ _ => none
  | n + 1 => fun x1 x2 s => (if 8 ≤ x2 then
 k24 x1 s
 else
 lt (wr (x1 + (ian (isr c0 x2) 1))) (fun v1 =>
 LX11_ones_4 c0 k24 n v1 (wr (x2 + 1)) s))
def fX11_ones (a0 : Int) (s0 : Mem) : Option Res :=
 LX11_ones_4 a0 (fun y3 s2 =>
 some (y3, s2)) FU 0 0 s0
set_option maxRecDepth 100000 in
set_option maxHeartbeats 4000000 in
theorem jLX11_ones_4 {K : KT} (hq : KI K (some .int)) (c0 : Int) (k24 : Int → Mem → Option Res) (hk24 : ∀ (y1 : Int) (s : Mem), J K rmX11_ones cX11_ones RX11 3 24 [none, some (.inl y1), none] [] s (k24 y1 s)) : ∀ (n : Nat) (x1 : Int) (x2 : Int) (s : Mem), J K rmX11_ones cX11_ones RX11 3 4 [some (.inl c0), some (.inl x1), some (.inl x2)] [] s (LX11_ones_4 c0 k24 n x1 x2 s) := by
  intro n
  induction n with
  | zero => intros; exact J_none
  | succ n ih =>
    intro x1 x2 s
    show J K _ _ _ _ _ _ _ _ (LX11_ones_4 c0 k24 (n + 1) x1 x2 s)
    simp only [LX11_ones_4]
    refine j_iload_n dX11_ones_4 rfl rfl ?_
    refine j_bipush (v := 8) dX11_ones_5 (by decide +kernel) (inr_d rfl) ?_
    refine j_icmp_ge (tgt := 24) dX11_ones_7 rfl ?_ ?_
    · exact j_msk [false, true, false] (hk24 _ _)
    · refine j_iload_n dX11_ones_10 rfl rfl ?_
      refine j_iload_n dX11_ones_11 rfl rfl ?_
      refine j_iload_n dX11_ones_12 rfl rfl ?_
      refine j_ishr dX11_ones_13 ?_
      refine j_iconst dX11_ones_14 (inr_d rfl) ?_
      refine j_iand dX11_ones_15 ?_
      refine j_iadd dX11_ones_16 ?_
      refine j_ltv (fun v1 => ?_)
      refine j_istore_nE (ls2 := [some (.inl c0), some (.inl v1), some (.inl x2)]) dX11_ones_17 rfl (by decide) rfl rfl ?_
      refine j_iincE (ls2 := [some (.inl c0), some (.inl v1), some (.inl (wr (x2 + 1)))]) dX11_ones_18 rfl (by decide) rfl rfl ?_
      refine j_goto (tgt := 4) dX11_ones_21 rfl ?_
      exact j_msk [true, true, true] (ih _ _ _)
set_option maxRecDepth 100000 in
set_option maxHeartbeats 4000000 in
theorem mX11_ones (l : Launch) (D : va_G) (ad : Nat → Nat) (cA : Nat → ClassId) (a0 : Int) (s0 : Mem) : MCi l D ad cA yX11_ones cX11_ones 3 (some .int) rmX11_ones [.inl a0] s0 (fX11_ones a0 s0) := by
  refine MCi_ofE (own := RX11) (ls := [some (.inl a0), none, none]) 2 (by decide +kernel) rfl rfl (fun _ => Nat.le_of_ble_eq_true rfl) (fun K hq => ?_)
  unfold fX11_ones
  refine j_iconst dX11_ones_0 (inr_d rfl) ?_
  refine j_istore_nE (ls2 := [some (.inl a0), some (.inl 0), none]) dX11_ones_1 rfl (by decide) rfl rfl ?_
  refine j_iconst dX11_ones_2 (inr_d rfl) ?_
  refine j_istore_nE (ls2 := [some (.inl a0), some (.inl 0), some (.inl 0)]) dX11_ones_3 rfl (by decide) rfl rfl ?_
  refine j_msk [true, true, true] (jLX11_ones_4 hq _ _ (fun y3 s2 => ?_) _ _ _ _)
  refine j_iload_n dX11_ones_24 rfl rfl ?_
  exact j_iret hq dX11_ones_25
abbrev rmX11_orderAt : Room := { frames := 2, cells := 0, slots := 0, locals := 49 }
theorem dX11_orderAt_0 : decode cX11_orderAt 0 = .ok (.aload_n 0, 1) := by decide +kernel
theorem dX11_orderAt_1 : decode cX11_orderAt 1 = .ok (.aload_n 0, 1) := by decide +kernel
theorem dX11_orderAt_2 : decode cX11_orderAt 2 = .ok (.getfield 261, 3) := by decide +kernel
theorem dX11_orderAt_5 : decode cX11_orderAt 5 = .ok (.iload_n 1, 1) := by decide +kernel
theorem dX11_orderAt_6 : decode cX11_orderAt 6 = .ok (.invokevirtual 255, 3) := by decide +kernel
theorem dX11_orderAt_9 : decode cX11_orderAt 9 = .ok (.istore_n 3, 1) := by decide +kernel
theorem dX11_orderAt_10 : decode cX11_orderAt 10 = .ok (.iload_n 2, 1) := by decide +kernel
theorem dX11_orderAt_11 : decode cX11_orderAt 11 = .ok (.iload_n 3, 1) := by decide +kernel
theorem dX11_orderAt_12 : decode cX11_orderAt 12 = .ok (.invokestatic 264, 3) := by decide +kernel
theorem dX11_orderAt_15 : decode cX11_orderAt 15 = .ok (.if_icmp .lt 6, 3) := by decide +kernel
theorem dX11_orderAt_18 : decode cX11_orderAt 18 = .ok (.bipush (-4), 2) := by decide +kernel
theorem dX11_orderAt_20 : decode cX11_orderAt 20 = .ok (.ireturn, 1) := by decide +kernel
theorem dX11_orderAt_21 : decode cX11_orderAt 21 = .ok (.aload_n 0, 1) := by decide +kernel
theorem dX11_orderAt_22 : decode cX11_orderAt 22 = .ok (.iload_n 3, 1) := by decide +kernel
theorem dX11_orderAt_23 : decode cX11_orderAt 23 = .ok (.invokevirtual 258, 3) := by decide +kernel
theorem dX11_orderAt_26 : decode cX11_orderAt 26 = .ok (.pop, 1) := by decide +kernel
theorem dX11_orderAt_27 : decode cX11_orderAt 27 = .ok (.iconst 0, 1) := by decide +kernel
theorem dX11_orderAt_28 : decode cX11_orderAt 28 = .ok (.istore 4, 2) := by decide +kernel
theorem dX11_orderAt_30 : decode cX11_orderAt 30 = .ok (.iconst 0, 1) := by decide +kernel
theorem dX11_orderAt_31 : decode cX11_orderAt 31 = .ok (.istore 5, 2) := by decide +kernel
theorem dX11_orderAt_33 : decode cX11_orderAt 33 = .ok (.iconst 0, 1) := by decide +kernel
theorem dX11_orderAt_34 : decode cX11_orderAt 34 = .ok (.istore 6, 2) := by decide +kernel
theorem dX11_orderAt_36 : decode cX11_orderAt 36 = .ok (.iload 6, 2) := by decide +kernel
theorem dX11_orderAt_38 : decode cX11_orderAt 38 = .ok (.iload_n 2, 1) := by decide +kernel
theorem dX11_orderAt_39 : decode cX11_orderAt 39 = .ok (.if_icmp .gt 65, 3) := by decide +kernel
theorem dX11_orderAt_42 : decode cX11_orderAt 42 = .ok (.iconst 0, 1) := by decide +kernel
theorem dX11_orderAt_43 : decode cX11_orderAt 43 = .ok (.istore 5, 2) := by decide +kernel
theorem dX11_orderAt_45 : decode cX11_orderAt 45 = .ok (.iload_n 3, 1) := by decide +kernel
theorem dX11_orderAt_46 : decode cX11_orderAt 46 = .ok (.iload 5, 2) := by decide +kernel
theorem dX11_orderAt_48 : decode cX11_orderAt 48 = .ok (.ishr, 1) := by decide +kernel
theorem dX11_orderAt_49 : decode cX11_orderAt 49 = .ok (.iconst 1, 1) := by decide +kernel
theorem dX11_orderAt_50 : decode cX11_orderAt 50 = .ok (.iand, 1) := by decide +kernel
theorem dX11_orderAt_51 : decode cX11_orderAt 51 = .ok (.ifCond .eq 32, 3) := by decide +kernel
theorem dX11_orderAt_54 : decode cX11_orderAt 54 = .ok (.iload 4, 2) := by decide +kernel
theorem dX11_orderAt_56 : decode cX11_orderAt 56 = .ok (.iload 5, 2) := by decide +kernel
theorem dX11_orderAt_58 : decode cX11_orderAt 58 = .ok (.ishr, 1) := by decide +kernel
theorem dX11_orderAt_59 : decode cX11_orderAt 59 = .ok (.iconst 1, 1) := by decide +kernel
theorem dX11_orderAt_60 : decode cX11_orderAt 60 = .ok (.iand, 1) := by decide +kernel
theorem dX11_orderAt_61 : decode cX11_orderAt 61 = .ok (.iconst 1, 1) := by decide +kernel
theorem dX11_orderAt_62 : decode cX11_orderAt 62 = .ok (.if_icmp .eq 21, 3) := by decide +kernel
theorem dX11_orderAt_65 : decode cX11_orderAt 65 = .ok (.aload_n 0, 1) := by decide +kernel
theorem dX11_orderAt_66 : decode cX11_orderAt 66 = .ok (.iload 4, 2) := by decide +kernel
theorem dX11_orderAt_68 : decode cX11_orderAt 68 = .ok (.iload 5, 2) := by decide +kernel
theorem dX11_orderAt_70 : decode cX11_orderAt 70 = .ok (.invokevirtual 252, 3) := by decide +kernel
theorem dX11_orderAt_73 : decode cX11_orderAt 73 = .ok (.aload_n 0, 1) := by decide +kernel
theorem dX11_orderAt_74 : decode cX11_orderAt 74 = .ok (.getfield 122, 3) := by decide +kernel
theorem dX11_orderAt_77 : decode cX11_orderAt 77 = .ok (.iload 4, 2) := by decide +kernel
theorem dX11_orderAt_79 : decode cX11_orderAt 79 = .ok (.iaload, 1) := by decide +kernel
theorem dX11_orderAt_80 : decode cX11_orderAt 80 = .ok (.if_icmp .eq 9, 3) := by decide +kernel
theorem dX11_orderAt_83 : decode cX11_orderAt 83 = .ok (.iinc 5 1, 3) := by decide +kernel
theorem dX11_orderAt_86 : decode cX11_orderAt 86 = .ok (.goto (-41), 3) := by decide +kernel
theorem dX11_orderAt_89 : decode cX11_orderAt 89 = .ok (.iload 4, 2) := by decide +kernel
theorem dX11_orderAt_91 : decode cX11_orderAt 91 = .ok (.iconst 1, 1) := by decide +kernel
theorem dX11_orderAt_92 : decode cX11_orderAt 92 = .ok (.iload 5, 2) := by decide +kernel
theorem dX11_orderAt_94 : decode cX11_orderAt 94 = .ok (.ishl, 1) := by decide +kernel
theorem dX11_orderAt_95 : decode cX11_orderAt 95 = .ok (.ior, 1) := by decide +kernel
theorem dX11_orderAt_96 : decode cX11_orderAt 96 = .ok (.istore 4, 2) := by decide +kernel
theorem dX11_orderAt_98 : decode cX11_orderAt 98 = .ok (.iinc 6 1, 3) := by decide +kernel
theorem dX11_orderAt_101 : decode cX11_orderAt 101 = .ok (.goto (-65), 3) := by decide +kernel
theorem dX11_orderAt_104 : decode cX11_orderAt 104 = .ok (.iload 5, 2) := by decide +kernel
theorem dX11_orderAt_106 : decode cX11_orderAt 106 = .ok (.ireturn, 1) := by decide +kernel
def LX11_orderAt_45 (c2 : Int) (c3 : Int) (c4 : Int) (c6 : Int) (k89 : Int → Mem → Option Res) : Nat → Int → Mem → Option Res
  | 0 => fun _ _ => none
  | n + 1 => fun x5 s => (if ian (isr c3 x5) 1 = 0 then
 LX11_orderAt_45 c2 c3 c4 c6 k89 n (wr (x5 + 1)) s
 else
 (if ian (isr c4 x5) 1 = 1 then
 LX11_orderAt_45 c2 c3 c4 c6 k89 n (wr (x5 + 1)) s
 else
 bnd (fX11_lateBy c4 x5 s) (fun r7 s8 =>
 rd (s8 135) c4 256 (fun v9 =>
 (if r7 = v9 then
 k89 x5 s8
 else
 LX11_orderAt_45 c2 c3 c4 c6 k89 n (wr (x5 + 1)) s8)))))
def LX11_orderAt_36 (c2 : Int) (c3 : Int) (k104 : Int → Mem → Option Res) : Nat → Int → Int → Int → Mem → Option Res
  | 0 => fun _ _ _ _ => none
  | n + 1 => fun x4 x5 x6 s => (if c2 < x6 then
 k104 x5 s
 else
 LX11_orderAt_45 c2 c3 x4 x6 (fun y11 s10 =>
 lt (iir x4 (ish 1 y11)) (fun v12 =>
 LX11_orderAt_36 c2 c3 k104 n v12 y11 (wr (x6 + 1)) s10)) FU 0 s)
def fX11_orderAt (a1 : Int) (a2 : Int) (s0 : Mem) : Option Res :=
 bnd (fX11_setOf (s0 100 48) a1 s0) (fun r1 s2 =>
 bnd (fX11_ones r1 s2) (fun r3 s4 =>
 (if a2 < r3 then
 bnd (fX11_layLate r1 s4) (fun r5 s6 =>
 LX11_orderAt_36 a2 r1 (fun y14 s13 =>
 some (y14, s13)) FU 0 0 0 s6)
 else
 some ((-4), s4))))
set_option maxRecDepth 100000 in
set_option maxHeartbeats 4000000 in
theorem jLX11_orderAt_45 {K : KT} (hq : KI K (some .int)) (c2 : Int) (c3 : Int) (c4 : Int) (c6 : Int) (k89 : Int → Mem → Option Res) (hk89 : ∀ (y5 : Int) (s : Mem), J K rmX11_orderAt cX11_orderAt RX11 7 89 [some (.inr (.inr 100)), none, some (.inl c2), some (.inl c3), some (.inl c4), some (.inl y5), some (.inl c6)] [] s (k89 y5 s)) : ∀ (n : Nat) (x5 : Int) (s : Mem), J K rmX11_orderAt cX11_orderAt RX11 7 45 [some (.inr (.inr 100)), none, some (.inl c2), some (.inl c3), some (.inl c4), some (.inl x5), some (.inl c6)] [] s (LX11_orderAt_45 c2 c3 c4 c6 k89 n x5 s) := by
  intro n
  induction n with
  | zero => intros; exact J_none
  | succ n ih =>
    intro x5 s
    show J K _ _ _ _ _ _ _ _ (LX11_orderAt_45 c2 c3 c4 c6 k89 (n + 1) x5 s)
    simp only [LX11_orderAt_45]
    refine j_iload_n dX11_orderAt_45 rfl rfl ?_
    refine j_iload dX11_orderAt_46 rfl ?_
    refine j_ishr dX11_orderAt_48 ?_
    refine j_iconst dX11_orderAt_49 (inr_d rfl) ?_
    refine j_iand dX11_orderAt_50 ?_
    refine j_if_eq (tgt := 83) dX11_orderAt_51 rfl ?_ ?_
    · refine j_iincE (ls2 := [some (.inr (.inr 100)), none, some (.inl c2), some (.inl c3), some (.inl c4), some (.inl (wr (x5 + 1))), some (.inl c6)]) dX11_orderAt_83 rfl (by decide) rfl rfl ?_
      refine j_goto (tgt := 45) dX11_orderAt_86 rfl ?_
      exact j_msk [true, false, true, true, true, true, true] (ih _ _)
    · refine j_iload dX11_orderAt_54 rfl ?_
      refine j_iload dX11_orderAt_56 rfl ?_
      refine j_ishr dX11_orderAt_58 ?_
      refine j_iconst dX11_orderAt_59 (inr_d rfl) ?_
      refine j_iand dX11_orderAt_60 ?_
      refine j_iconst dX11_orderAt_61 (inr_d rfl) ?_
      refine j_icmp_eq (tgt := 83) dX11_orderAt_62 rfl ?_ ?_
      · refine j_iincE (ls2 := [some (.inr (.inr 100)), none, some (.inl c2), some (.inl c3), some (.inl c4), some (.inl (wr (x5 + 1))), some (.inl c6)]) dX11_orderAt_83 rfl (by decide) rfl rfl ?_
        refine j_goto (tgt := 45) dX11_orderAt_86 rfl ?_
        exact j_msk [true, false, true, true, true, true, true] (ih _ _)
      · refine j_aload_n dX11_orderAt_65 rfl rfl ?_
        refine j_iload dX11_orderAt_66 rfl ?_
        refine j_iload dX11_orderAt_68 rfl ?_
        refine j_callVi (mX11_lateBy (kl K) (kD K) (kad K) (kcA K) c4 x5 s) cw_RX11_252 sh_100 rfl ⟨rfl, rfl, by decide, by decide⟩ rfl rfl (Nat.le_of_ble_eq_true rfl) dX11_orderAt_70 (fun r7 s8 => ?_)
        refine j_aload_n dX11_orderAt_73 rfl rfl ?_
        refine j_getR fl_RX11_122 sh_100 rfl dX11_orderAt_74 ?_
        refine j_iload dX11_orderAt_77 rfl ?_
        refine j_iald sh_135 dX11_orderAt_79 (fun v9 => ?_)
        refine j_icmp_eq (tgt := 89) dX11_orderAt_80 rfl ?_ ?_
        · exact j_msk [true, false, true, true, true, true, true] (hk89 _ _)
        · refine j_iincE (ls2 := [some (.inr (.inr 100)), none, some (.inl c2), some (.inl c3), some (.inl c4), some (.inl (wr (x5 + 1))), some (.inl c6)]) dX11_orderAt_83 rfl (by decide) rfl rfl ?_
          refine j_goto (tgt := 45) dX11_orderAt_86 rfl ?_
          exact j_msk [true, false, true, true, true, true, true] (ih _ _)
set_option maxRecDepth 100000 in
set_option maxHeartbeats 4000000 in
theorem jLX11_orderAt_36 {K : KT} (hq : KI K (some .int)) (c2 : Int) (c3 : Int) (k104 : Int → Mem → Option Res) (hk104 : ∀ (y5 : Int) (s : Mem), J K rmX11_orderAt cX11_orderAt RX11 7 104 [none, none, none, none, none, some (.inl y5), none] [] s (k104 y5 s)) : ∀ (n : Nat) (x4 : Int) (x5 : Int) (x6 : Int) (s : Mem), J K rmX11_orderAt cX11_orderAt RX11 7 36 [some (.inr (.inr 100)), none, some (.inl c2), some (.inl c3), some (.inl x4), some (.inl x5), some (.inl x6)] [] s (LX11_orderAt_36 c2 c3 k104 n x4 x5 x6 s) := by
  intro n
  induction n with
  | zero => intros; exact J_none
  | succ n ih =>
    intro x4 x5 x6 s
    show J K _ _ _ _ _ _ _ _ (LX11_orderAt_36 c2 c3 k104 (n + 1) x4 x5 x6 s)
    simp only [LX11_orderAt_36]
    refine j_iload dX11_orderAt_36 rfl ?_
    refine j_iload_n dX11_orderAt_38 rfl rfl ?_
    refine j_icmp_gt (tgt := 104) dX11_orderAt_39 rfl ?_ ?_
    · exact j_msk [false, false, false, false, false, true, false] (hk104 _ _)
    · refine j_iconst dX11_orderAt_42 (inr_d rfl) ?_
      refine j_istoreE (ls2 := [some (.inr (.inr 100)), none, some (.inl c2), some (.inl c3), some (.inl x4), some (.inl 0), some (.inl x6)]) dX11_orderAt_43 (by decide) rfl rfl ?_
      refine j_msk [true, false, true, true, true, true, true] (jLX11_orderAt_45 hq _ _ _ _ _ (fun y11 s10 => ?_) _ _ _)
      refine j_iload dX11_orderAt_89 rfl ?_
      refine j_iconst dX11_orderAt_91 (inr_d rfl) ?_
      refine j_iload dX11_orderAt_92 rfl ?_
      refine j_ishl dX11_orderAt_94 ?_
      refine j_ior dX11_orderAt_95 ?_
      refine j_ltv (fun v12 => ?_)
      refine j_istoreE (ls2 := [some (.inr (.inr 100)), none, some (.inl c2), some (.inl c3), some (.inl v12), some (.inl y11), some (.inl x6)]) dX11_orderAt_96 (by decide) rfl rfl ?_
      refine j_iincE (ls2 := [some (.inr (.inr 100)), none, some (.inl c2), some (.inl c3), some (.inl v12), some (.inl y11), some (.inl (wr (x6 + 1)))]) dX11_orderAt_98 rfl (by decide) rfl rfl ?_
      refine j_goto (tgt := 36) dX11_orderAt_101 rfl ?_
      exact j_msk [true, false, true, true, true, true, true] (ih _ _ _ _)
set_option maxRecDepth 100000 in
set_option maxHeartbeats 4000000 in
theorem mX11_orderAt (l : Launch) (D : va_G) (ad : Nat → Nat) (cA : Nat → ClassId) (a1 : Int) (a2 : Int) (s0 : Mem) : MCi l D ad cA yX11_orderAt cX11_orderAt 7 (some .int) rmX11_orderAt [.inr (.inr 100), .inl a1, .inl a2] s0 (fX11_orderAt a1 a2 s0) := by
  refine MCi_ofE (own := RX11) (ls := [some (.inr (.inr 100)), some (.inl a1), some (.inl a2), none, none, none, none]) 4 (by decide +kernel) rfl rfl (fun _ => Nat.le_of_ble_eq_true rfl) (fun K hq => ?_)
  unfold fX11_orderAt
  refine j_aload_n dX11_orderAt_0 rfl rfl ?_
  refine j_aload_n dX11_orderAt_1 rfl rfl ?_
  refine j_getI fl_RX11_261 sh_100 rfl dX11_orderAt_2 ?_
  refine j_iload_n dX11_orderAt_5 rfl rfl ?_
  refine j_callVi (mX11_setOf (kl K) (kD K) (kad K) (kcA K) (s0 100 48) a1 s0) cw_RX11_255 sh_100 rfl ⟨rfl, rfl, by decide, by decide⟩ rfl rfl (Nat.le_of_ble_eq_true rfl) dX11_orderAt_6 (fun r1 s2 => ?_)
  refine j_istore_nE (ls2 := [some (.inr (.inr 100)), some (.inl a1), some (.inl a2), some (.inl r1), none, none, none]) dX11_orderAt_9 rfl (by decide) rfl rfl ?_
  refine j_iload_n dX11_orderAt_10 rfl rfl ?_
  refine j_iload_n dX11_orderAt_11 rfl rfl ?_
  refine j_callSi (mX11_ones (kl K) (kD K) (kad K) (kcA K) r1 s2) cw_RX11_264 ⟨rfl, rfl, by decide, by decide⟩ rfl rfl (Nat.le_of_ble_eq_true rfl) dX11_orderAt_12 (fun r3 s4 => ?_)
  refine j_icmp_lt (tgt := 21) dX11_orderAt_15 rfl ?_ ?_
  · refine j_aload_n dX11_orderAt_21 rfl rfl ?_
    refine j_iload_n dX11_orderAt_22 rfl rfl ?_
    refine j_callVi (mX11_layLate (kl K) (kD K) (kad K) (kcA K) r1 s4) cw_RX11_258 sh_100 rfl ⟨rfl, rfl, by decide, by decide⟩ rfl rfl (Nat.le_of_ble_eq_true rfl) dX11_orderAt_23 (fun r5 s6 => ?_)
    refine j_pop dX11_orderAt_26 ?_
    refine j_iconst dX11_orderAt_27 (inr_d rfl) ?_
    refine j_istoreE (ls2 := [some (.inr (.inr 100)), some (.inl a1), some (.inl a2), some (.inl r1), some (.inl 0), none, none]) dX11_orderAt_28 (by decide) rfl rfl ?_
    refine j_iconst dX11_orderAt_30 (inr_d rfl) ?_
    refine j_istoreE (ls2 := [some (.inr (.inr 100)), some (.inl a1), some (.inl a2), some (.inl r1), some (.inl 0), some (.inl 0), none]) dX11_orderAt_31 (by decide) rfl rfl ?_
    refine j_iconst dX11_orderAt_33 (inr_d rfl) ?_
    refine j_istoreE (ls2 := [some (.inr (.inr 100)), some (.inl a1), some (.inl a2), some (.inl r1), some (.inl 0), some (.inl 0), some (.inl 0)]) dX11_orderAt_34 (by decide) rfl rfl ?_
    refine j_msk [true, false, true, true, true, true, true] (jLX11_orderAt_36 hq _ _ _ (fun y14 s13 => ?_) _ _ _ _ _)
    refine j_iload dX11_orderAt_104 rfl ?_
    exact j_iret hq dX11_orderAt_106
  · refine j_bipush (v := (-4)) dX11_orderAt_18 (by decide +kernel) (inr_d rfl) ?_
    exact j_iret hq dX11_orderAt_20
abbrev rmX11_plan : Room := { frames := 3, cells := 0, slots := 0, locals := 75 }
theorem dX11_plan_0 : decode cX11_plan 0 = .ok (.iload_n 1, 1) := by decide +kernel
theorem dX11_plan_1 : decode cX11_plan 1 = .ok (.iconst 0, 1) := by decide +kernel
theorem dX11_plan_2 : decode cX11_plan 2 = .ok (.iconst 3, 1) := by decide +kernel
theorem dX11_plan_3 : decode cX11_plan 3 = .ok (.invokestatic 125, 3) := by decide +kernel
theorem dX11_plan_6 : decode cX11_plan 6 = .ok (.ifCond .ne 27, 3) := by decide +kernel
theorem dX11_plan_9 : decode cX11_plan 9 = .ok (.iload_n 1, 1) := by decide +kernel
theorem dX11_plan_10 : decode cX11_plan 10 = .ok (.bipush 10, 2) := by decide +kernel
theorem dX11_plan_12 : decode cX11_plan 12 = .ok (.bipush 17, 2) := by decide +kernel
theorem dX11_plan_14 : decode cX11_plan 14 = .ok (.invokestatic 125, 3) := by decide +kernel
theorem dX11_plan_17 : decode cX11_plan 17 = .ok (.ifCond .ne 16, 3) := by decide +kernel
theorem dX11_plan_20 : decode cX11_plan 20 = .ok (.iload_n 1, 1) := by decide +kernel
theorem dX11_plan_21 : decode cX11_plan 21 = .ok (.bipush 20, 2) := by decide +kernel
theorem dX11_plan_23 : decode cX11_plan 23 = .ok (.bipush 27, 2) := by decide +kernel
theorem dX11_plan_25 : decode cX11_plan 25 = .ok (.invokestatic 125, 3) := by decide +kernel
theorem dX11_plan_28 : decode cX11_plan 28 = .ok (.ifCond .ne 5, 3) := by decide +kernel
theorem dX11_plan_31 : decode cX11_plan 31 = .ok (.iconst (-1), 1) := by decide +kernel
theorem dX11_plan_32 : decode cX11_plan 32 = .ok (.ireturn, 1) := by decide +kernel
theorem dX11_plan_33 : decode cX11_plan 33 = .ok (.aload_n 0, 1) := by decide +kernel
theorem dX11_plan_34 : decode cX11_plan 34 = .ok (.invokevirtual 267, 3) := by decide +kernel
theorem dX11_plan_37 : decode cX11_plan 37 = .ok (.istore_n 2, 1) := by decide +kernel
theorem dX11_plan_38 : decode cX11_plan 38 = .ok (.iload_n 1, 1) := by decide +kernel
theorem dX11_plan_39 : decode cX11_plan 39 = .ok (.ifCond .ne 5, 3) := by decide +kernel
theorem dX11_plan_42 : decode cX11_plan 42 = .ok (.iload_n 2, 1) := by decide +kernel
theorem dX11_plan_43 : decode cX11_plan 43 = .ok (.ireturn, 1) := by decide +kernel
theorem dX11_plan_44 : decode cX11_plan 44 = .ok (.iload_n 1, 1) := by decide +kernel
theorem dX11_plan_45 : decode cX11_plan 45 = .ok (.iconst 1, 1) := by decide +kernel
theorem dX11_plan_46 : decode cX11_plan 46 = .ok (.if_icmp .ne 8, 3) := by decide +kernel
theorem dX11_plan_49 : decode cX11_plan 49 = .ok (.aload_n 0, 1) := by decide +kernel
theorem dX11_plan_50 : decode cX11_plan 50 = .ok (.getfield 261, 3) := by decide +kernel
theorem dX11_plan_53 : decode cX11_plan 53 = .ok (.ireturn, 1) := by decide +kernel
theorem dX11_plan_54 : decode cX11_plan 54 = .ok (.iload_n 1, 1) := by decide +kernel
theorem dX11_plan_55 : decode cX11_plan 55 = .ok (.iconst 4, 1) := by decide +kernel
theorem dX11_plan_56 : decode cX11_plan 56 = .ok (.if_icmp .ge 18, 3) := by decide +kernel
theorem dX11_plan_59 : decode cX11_plan 59 = .ok (.aload_n 0, 1) := by decide +kernel
theorem dX11_plan_60 : decode cX11_plan 60 = .ok (.aload_n 0, 1) := by decide +kernel
theorem dX11_plan_61 : decode cX11_plan 61 = .ok (.getfield 261, 3) := by decide +kernel
theorem dX11_plan_64 : decode cX11_plan 64 = .ok (.iload_n 1, 1) := by decide +kernel
theorem dX11_plan_65 : decode cX11_plan 65 = .ok (.iconst 2, 1) := by decide +kernel
theorem dX11_plan_66 : decode cX11_plan 66 = .ok (.isub, 1) := by decide +kernel
theorem dX11_plan_67 : decode cX11_plan 67 = .ok (.invokevirtual 255, 3) := by decide +kernel
theorem dX11_plan_70 : decode cX11_plan 70 = .ok (.invokestatic 264, 3) := by decide +kernel
theorem dX11_plan_73 : decode cX11_plan 73 = .ok (.ireturn, 1) := by decide +kernel
theorem dX11_plan_74 : decode cX11_plan 74 = .ok (.iload_n 1, 1) := by decide +kernel
theorem dX11_plan_75 : decode cX11_plan 75 = .ok (.bipush 20, 2) := by decide +kernel
theorem dX11_plan_77 : decode cX11_plan 77 = .ok (.if_icmp .ge 15, 3) := by decide +kernel
theorem dX11_plan_80 : decode cX11_plan 80 = .ok (.aload_n 0, 1) := by decide +kernel
theorem dX11_plan_81 : decode cX11_plan 81 = .ok (.iconst 0, 1) := by decide +kernel
theorem dX11_plan_82 : decode cX11_plan 82 = .ok (.iload_n 1, 1) := by decide +kernel
theorem dX11_plan_83 : decode cX11_plan 83 = .ok (.bipush 10, 2) := by decide +kernel
theorem dX11_plan_85 : decode cX11_plan 85 = .ok (.isub, 1) := by decide +kernel
theorem dX11_plan_86 : decode cX11_plan 86 = .ok (.invokevirtual 270, 3) := by decide +kernel
theorem dX11_plan_89 : decode cX11_plan 89 = .ok (.goto 12, 3) := by decide +kernel
theorem dX11_plan_92 : decode cX11_plan 92 = .ok (.aload_n 0, 1) := by decide +kernel
theorem dX11_plan_93 : decode cX11_plan 93 = .ok (.iconst 1, 1) := by decide +kernel
theorem dX11_plan_94 : decode cX11_plan 94 = .ok (.iload_n 1, 1) := by decide +kernel
theorem dX11_plan_95 : decode cX11_plan 95 = .ok (.bipush 20, 2) := by decide +kernel
theorem dX11_plan_97 : decode cX11_plan 97 = .ok (.isub, 1) := by decide +kernel
theorem dX11_plan_98 : decode cX11_plan 98 = .ok (.invokevirtual 270, 3) := by decide +kernel
theorem dX11_plan_101 : decode cX11_plan 101 = .ok (.ireturn, 1) := by decide +kernel
def fX11_plan (a1 : Int) (s0 : Mem) : Option Res :=
 bnd (fX11_in a1 0 3 s0) (fun r1 s2 =>
 jn (fun (s3 : Mem) =>
 bnd (fX11_layBest s3) (fun r4 s5 =>
 (if a1 ≠ 0 then
 (if a1 ≠ 1 then
 (if 4 ≤ a1 then
 (if 20 ≤ a1 then
 bnd (fX11_orderAt 1 (wr (a1 - 20)) s5) (fun r6 s7 =>
 some (r6, s7))
 else
 bnd (fX11_orderAt 0 (wr (a1 - 10)) s5) (fun r8 s9 =>
 some (r8, s9)))
 else
 bnd (fX11_setOf (s5 100 48) (wr (a1 - 2)) s5) (fun r10 s11 =>
 bnd (fX11_ones r10 s11) (fun r12 s13 =>
 some (r12, s13))))
 else
 some (s5 100 48, s5))
 else
 some (r4, s5)))) (fun k33 =>
 (if r1 ≠ 0 then
 k33 s2
 else
 bnd (fX11_in a1 10 17 s2) (fun r14 s15 =>
 (if r14 ≠ 0 then
 k33 s15
 else
 bnd (fX11_in a1 20 27 s15) (fun r16 s17 =>
 (if r16 ≠ 0 then
 k33 s17
 else
 some ((-1), s17))))))))
set_option maxRecDepth 100000 in
set_option maxHeartbeats 4000000 in
theorem mX11_plan (l : Launch) (D : va_G) (ad : Nat → Nat) (cA : Nat → ClassId) (a1 : Int) (s0 : Mem) : MCi l D ad cA yX11_plan cX11_plan 3 (some .int) rmX11_plan [.inr (.inr 100), .inl a1] s0 (fX11_plan a1 s0) := by
  refine MCi_ofE (own := RX11) (ls := [some (.inr (.inr 100)), some (.inl a1), none]) 1 (by decide +kernel) rfl rfl (fun _ => Nat.le_of_ble_eq_true rfl) (fun K hq => ?_)
  unfold fX11_plan
  refine j_iload_n dX11_plan_0 rfl rfl ?_
  refine j_iconst dX11_plan_1 (inr_d rfl) ?_
  refine j_iconst dX11_plan_2 (inr_d rfl) ?_
  refine j_callSi (mX11_in (kl K) (kD K) (kad K) (kcA K) a1 0 3 s0) cw_RX11_125 ⟨rfl, rfl, by decide, by decide⟩ rfl rfl (Nat.le_of_ble_eq_true rfl) dX11_plan_3 (fun r1 s2 => ?_)
  refine j_jn (fun k33 => ∀ (s3 : Mem), J K rmX11_plan cX11_plan RX11 3 33 [some (.inr (.inr 100)), some (.inl a1), none] [] s3 (k33 s3)) (fun s3 => ?_) (fun k33 hk33 => ?_)
  · refine j_aload_n dX11_plan_33 rfl rfl ?_
    refine j_callVi (mX11_layBest (kl K) (kD K) (kad K) (kcA K) s3) cw_RX11_267 sh_100 rfl ⟨rfl, rfl, by decide, by decide⟩ rfl rfl (Nat.le_of_ble_eq_true rfl) dX11_plan_34 (fun r4 s5 => ?_)
    refine j_istore_nE (ls2 := [some (.inr (.inr 100)), some (.inl a1), some (.inl r4)]) dX11_plan_37 rfl (by decide) rfl rfl ?_
    refine j_iload_n dX11_plan_38 rfl rfl ?_
    refine j_if_ne (tgt := 44) dX11_plan_39 rfl ?_ ?_
    · refine j_iload_n dX11_plan_44 rfl rfl ?_
      refine j_iconst dX11_plan_45 (inr_d rfl) ?_
      refine j_icmp_ne (tgt := 54) dX11_plan_46 rfl ?_ ?_
      · refine j_iload_n dX11_plan_54 rfl rfl ?_
        refine j_iconst dX11_plan_55 (inr_d rfl) ?_
        refine j_icmp_ge (tgt := 74) dX11_plan_56 rfl ?_ ?_
        · refine j_iload_n dX11_plan_74 rfl rfl ?_
          refine j_bipush (v := 20) dX11_plan_75 (by decide +kernel) (inr_d rfl) ?_
          refine j_icmp_ge (tgt := 92) dX11_plan_77 rfl ?_ ?_
          · refine j_aload_n dX11_plan_92 rfl rfl ?_
            refine j_iconst dX11_plan_93 (inr_d rfl) ?_
            refine j_iload_n dX11_plan_94 rfl rfl ?_
            refine j_bipush (v := 20) dX11_plan_95 (by decide +kernel) (inr_d rfl) ?_
            refine j_isub dX11_plan_97 ?_
            refine j_callVi (mX11_orderAt (kl K) (kD K) (kad K) (kcA K) 1 (wr (a1 - 20)) s5) cw_RX11_270 sh_100 rfl ⟨rfl, rfl, by decide, by decide⟩ rfl rfl (Nat.le_of_ble_eq_true rfl) dX11_plan_98 (fun r6 s7 => ?_)
            exact j_iret hq dX11_plan_101
          · refine j_aload_n dX11_plan_80 rfl rfl ?_
            refine j_iconst dX11_plan_81 (inr_d rfl) ?_
            refine j_iload_n dX11_plan_82 rfl rfl ?_
            refine j_bipush (v := 10) dX11_plan_83 (by decide +kernel) (inr_d rfl) ?_
            refine j_isub dX11_plan_85 ?_
            refine j_callVi (mX11_orderAt (kl K) (kD K) (kad K) (kcA K) 0 (wr (a1 - 10)) s5) cw_RX11_270 sh_100 rfl ⟨rfl, rfl, by decide, by decide⟩ rfl rfl (Nat.le_of_ble_eq_true rfl) dX11_plan_86 (fun r8 s9 => ?_)
            refine j_goto (tgt := 101) dX11_plan_89 rfl ?_
            exact j_iret hq dX11_plan_101
        · refine j_aload_n dX11_plan_59 rfl rfl ?_
          refine j_aload_n dX11_plan_60 rfl rfl ?_
          refine j_getI fl_RX11_261 sh_100 rfl dX11_plan_61 ?_
          refine j_iload_n dX11_plan_64 rfl rfl ?_
          refine j_iconst dX11_plan_65 (inr_d rfl) ?_
          refine j_isub dX11_plan_66 ?_
          refine j_callVi (mX11_setOf (kl K) (kD K) (kad K) (kcA K) (s5 100 48) (wr (a1 - 2)) s5) cw_RX11_255 sh_100 rfl ⟨rfl, rfl, by decide, by decide⟩ rfl rfl (Nat.le_of_ble_eq_true rfl) dX11_plan_67 (fun r10 s11 => ?_)
          refine j_callSi (mX11_ones (kl K) (kD K) (kad K) (kcA K) r10 s11) cw_RX11_264 ⟨rfl, rfl, by decide, by decide⟩ rfl rfl (Nat.le_of_ble_eq_true rfl) dX11_plan_70 (fun r12 s13 => ?_)
          exact j_iret hq dX11_plan_73
      · refine j_aload_n dX11_plan_49 rfl rfl ?_
        refine j_getI fl_RX11_261 sh_100 rfl dX11_plan_50 ?_
        exact j_iret hq dX11_plan_53
    · refine j_iload_n dX11_plan_42 rfl rfl ?_
      exact j_iret hq dX11_plan_43
  refine j_if_ne (tgt := 33) dX11_plan_6 rfl ?_ ?_
  · exact j_msk [true, true, false] (hk33 _)
  · refine j_iload_n dX11_plan_9 rfl rfl ?_
    refine j_bipush (v := 10) dX11_plan_10 (by decide +kernel) (inr_d rfl) ?_
    refine j_bipush (v := 17) dX11_plan_12 (by decide +kernel) (inr_d rfl) ?_
    refine j_callSi (mX11_in (kl K) (kD K) (kad K) (kcA K) a1 10 17 s2) cw_RX11_125 ⟨rfl, rfl, by decide, by decide⟩ rfl rfl (Nat.le_of_ble_eq_true rfl) dX11_plan_14 (fun r14 s15 => ?_)
    refine j_if_ne (tgt := 33) dX11_plan_17 rfl ?_ ?_
    · exact j_msk [true, true, false] (hk33 _)
    · refine j_iload_n dX11_plan_20 rfl rfl ?_
      refine j_bipush (v := 20) dX11_plan_21 (by decide +kernel) (inr_d rfl) ?_
      refine j_bipush (v := 27) dX11_plan_23 (by decide +kernel) (inr_d rfl) ?_
      refine j_callSi (mX11_in (kl K) (kD K) (kad K) (kcA K) a1 20 27 s15) cw_RX11_125 ⟨rfl, rfl, by decide, by decide⟩ rfl rfl (Nat.le_of_ble_eq_true rfl) dX11_plan_25 (fun r16 s17 => ?_)
      refine j_if_ne (tgt := 33) dX11_plan_28 rfl ?_ ?_
      · exact j_msk [true, true, false] (hk33 _)
      · refine j_iconst dX11_plan_31 (inr_d rfl) ?_
        exact j_iret hq dX11_plan_32
abbrev rmX11_copyShots : Room := { frames := 0, cells := 0, slots := 0, locals := 0 }
theorem dX11_copyShots_0 : decode cX11_copyShots 0 = .ok (.iconst 0, 1) := by decide +kernel
theorem dX11_copyShots_1 : decode cX11_copyShots 1 = .ok (.istore_n 3, 1) := by decide +kernel
theorem dX11_copyShots_2 : decode cX11_copyShots 2 = .ok (.iload_n 3, 1) := by decide +kernel
theorem dX11_copyShots_3 : decode cX11_copyShots 3 = .ok (.bipush 48, 2) := by decide +kernel
theorem dX11_copyShots_5 : decode cX11_copyShots 5 = .ok (.if_icmp .ge 53, 3) := by decide +kernel
theorem dX11_copyShots_8 : decode cX11_copyShots 8 = .ok (.aload_n 0, 1) := by decide +kernel
theorem dX11_copyShots_9 : decode cX11_copyShots 9 = .ok (.getfield 68, 3) := by decide +kernel
theorem dX11_copyShots_12 : decode cX11_copyShots 12 = .ok (.bipush 48, 2) := by decide +kernel
theorem dX11_copyShots_14 : decode cX11_copyShots 14 = .ok (.iload_n 2, 1) := by decide +kernel
theorem dX11_copyShots_15 : decode cX11_copyShots 15 = .ok (.imul, 1) := by decide +kernel
theorem dX11_copyShots_16 : decode cX11_copyShots 16 = .ok (.iload_n 3, 1) := by decide +kernel
theorem dX11_copyShots_17 : decode cX11_copyShots 17 = .ok (.iadd, 1) := by decide +kernel
theorem dX11_copyShots_18 : decode cX11_copyShots 18 = .ok (.aload_n 0, 1) := by decide +kernel
theorem dX11_copyShots_19 : decode cX11_copyShots 19 = .ok (.getfield 68, 3) := by decide +kernel
theorem dX11_copyShots_22 : decode cX11_copyShots 22 = .ok (.bipush 48, 2) := by decide +kernel
theorem dX11_copyShots_24 : decode cX11_copyShots 24 = .ok (.iload_n 1, 1) := by decide +kernel
theorem dX11_copyShots_25 : decode cX11_copyShots 25 = .ok (.imul, 1) := by decide +kernel
theorem dX11_copyShots_26 : decode cX11_copyShots 26 = .ok (.iload_n 3, 1) := by decide +kernel
theorem dX11_copyShots_27 : decode cX11_copyShots 27 = .ok (.iadd, 1) := by decide +kernel
theorem dX11_copyShots_28 : decode cX11_copyShots 28 = .ok (.iaload, 1) := by decide +kernel
theorem dX11_copyShots_29 : decode cX11_copyShots 29 = .ok (.iastore, 1) := by decide +kernel
theorem dX11_copyShots_30 : decode cX11_copyShots 30 = .ok (.aload_n 0, 1) := by decide +kernel
theorem dX11_copyShots_31 : decode cX11_copyShots 31 = .ok (.getfield 71, 3) := by decide +kernel
theorem dX11_copyShots_34 : decode cX11_copyShots 34 = .ok (.bipush 48, 2) := by decide +kernel
theorem dX11_copyShots_36 : decode cX11_copyShots 36 = .ok (.iload_n 2, 1) := by decide +kernel
theorem dX11_copyShots_37 : decode cX11_copyShots 37 = .ok (.imul, 1) := by decide +kernel
theorem dX11_copyShots_38 : decode cX11_copyShots 38 = .ok (.iload_n 3, 1) := by decide +kernel
theorem dX11_copyShots_39 : decode cX11_copyShots 39 = .ok (.iadd, 1) := by decide +kernel
theorem dX11_copyShots_40 : decode cX11_copyShots 40 = .ok (.aload_n 0, 1) := by decide +kernel
theorem dX11_copyShots_41 : decode cX11_copyShots 41 = .ok (.getfield 71, 3) := by decide +kernel
theorem dX11_copyShots_44 : decode cX11_copyShots 44 = .ok (.bipush 48, 2) := by decide +kernel
theorem dX11_copyShots_46 : decode cX11_copyShots 46 = .ok (.iload_n 1, 1) := by decide +kernel
theorem dX11_copyShots_47 : decode cX11_copyShots 47 = .ok (.imul, 1) := by decide +kernel
theorem dX11_copyShots_48 : decode cX11_copyShots 48 = .ok (.iload_n 3, 1) := by decide +kernel
theorem dX11_copyShots_49 : decode cX11_copyShots 49 = .ok (.iadd, 1) := by decide +kernel
theorem dX11_copyShots_50 : decode cX11_copyShots 50 = .ok (.iaload, 1) := by decide +kernel
theorem dX11_copyShots_51 : decode cX11_copyShots 51 = .ok (.iastore, 1) := by decide +kernel
theorem dX11_copyShots_52 : decode cX11_copyShots 52 = .ok (.iinc 3 1, 3) := by decide +kernel
theorem dX11_copyShots_55 : decode cX11_copyShots 55 = .ok (.goto (-53), 3) := by decide +kernel
theorem dX11_copyShots_58 : decode cX11_copyShots 58 = .ok (.iconst 0, 1) := by decide +kernel
theorem dX11_copyShots_59 : decode cX11_copyShots 59 = .ok (.istore_n 3, 1) := by decide +kernel
theorem dX11_copyShots_60 : decode cX11_copyShots 60 = .ok (.iload_n 3, 1) := by decide +kernel
theorem dX11_copyShots_61 : decode cX11_copyShots 61 = .ok (.bipush 16, 2) := by decide +kernel
theorem dX11_copyShots_63 : decode cX11_copyShots 63 = .ok (.if_icmp .ge 75, 3) := by decide +kernel
theorem dX11_copyShots_66 : decode cX11_copyShots 66 = .ok (.aload_n 0, 1) := by decide +kernel
theorem dX11_copyShots_67 : decode cX11_copyShots 67 = .ok (.getfield 74, 3) := by decide +kernel
theorem dX11_copyShots_70 : decode cX11_copyShots 70 = .ok (.bipush 16, 2) := by decide +kernel
theorem dX11_copyShots_72 : decode cX11_copyShots 72 = .ok (.iload_n 2, 1) := by decide +kernel
theorem dX11_copyShots_73 : decode cX11_copyShots 73 = .ok (.imul, 1) := by decide +kernel
theorem dX11_copyShots_74 : decode cX11_copyShots 74 = .ok (.iload_n 3, 1) := by decide +kernel
theorem dX11_copyShots_75 : decode cX11_copyShots 75 = .ok (.iadd, 1) := by decide +kernel
theorem dX11_copyShots_76 : decode cX11_copyShots 76 = .ok (.aload_n 0, 1) := by decide +kernel
theorem dX11_copyShots_77 : decode cX11_copyShots 77 = .ok (.getfield 74, 3) := by decide +kernel
theorem dX11_copyShots_80 : decode cX11_copyShots 80 = .ok (.bipush 16, 2) := by decide +kernel
theorem dX11_copyShots_82 : decode cX11_copyShots 82 = .ok (.iload_n 1, 1) := by decide +kernel
theorem dX11_copyShots_83 : decode cX11_copyShots 83 = .ok (.imul, 1) := by decide +kernel
theorem dX11_copyShots_84 : decode cX11_copyShots 84 = .ok (.iload_n 3, 1) := by decide +kernel
theorem dX11_copyShots_85 : decode cX11_copyShots 85 = .ok (.iadd, 1) := by decide +kernel
theorem dX11_copyShots_86 : decode cX11_copyShots 86 = .ok (.iaload, 1) := by decide +kernel
theorem dX11_copyShots_87 : decode cX11_copyShots 87 = .ok (.iastore, 1) := by decide +kernel
theorem dX11_copyShots_88 : decode cX11_copyShots 88 = .ok (.aload_n 0, 1) := by decide +kernel
theorem dX11_copyShots_89 : decode cX11_copyShots 89 = .ok (.getfield 77, 3) := by decide +kernel
theorem dX11_copyShots_92 : decode cX11_copyShots 92 = .ok (.bipush 16, 2) := by decide +kernel
theorem dX11_copyShots_94 : decode cX11_copyShots 94 = .ok (.iload_n 2, 1) := by decide +kernel
theorem dX11_copyShots_95 : decode cX11_copyShots 95 = .ok (.imul, 1) := by decide +kernel
theorem dX11_copyShots_96 : decode cX11_copyShots 96 = .ok (.iload_n 3, 1) := by decide +kernel
theorem dX11_copyShots_97 : decode cX11_copyShots 97 = .ok (.iadd, 1) := by decide +kernel
theorem dX11_copyShots_98 : decode cX11_copyShots 98 = .ok (.aload_n 0, 1) := by decide +kernel
theorem dX11_copyShots_99 : decode cX11_copyShots 99 = .ok (.getfield 77, 3) := by decide +kernel
theorem dX11_copyShots_102 : decode cX11_copyShots 102 = .ok (.bipush 16, 2) := by decide +kernel
theorem dX11_copyShots_104 : decode cX11_copyShots 104 = .ok (.iload_n 1, 1) := by decide +kernel
theorem dX11_copyShots_105 : decode cX11_copyShots 105 = .ok (.imul, 1) := by decide +kernel
theorem dX11_copyShots_106 : decode cX11_copyShots 106 = .ok (.iload_n 3, 1) := by decide +kernel
theorem dX11_copyShots_107 : decode cX11_copyShots 107 = .ok (.iadd, 1) := by decide +kernel
theorem dX11_copyShots_108 : decode cX11_copyShots 108 = .ok (.iaload, 1) := by decide +kernel
theorem dX11_copyShots_109 : decode cX11_copyShots 109 = .ok (.iastore, 1) := by decide +kernel
theorem dX11_copyShots_110 : decode cX11_copyShots 110 = .ok (.aload_n 0, 1) := by decide +kernel
theorem dX11_copyShots_111 : decode cX11_copyShots 111 = .ok (.getfield 89, 3) := by decide +kernel
theorem dX11_copyShots_114 : decode cX11_copyShots 114 = .ok (.bipush 16, 2) := by decide +kernel
theorem dX11_copyShots_116 : decode cX11_copyShots 116 = .ok (.iload_n 2, 1) := by decide +kernel
theorem dX11_copyShots_117 : decode cX11_copyShots 117 = .ok (.imul, 1) := by decide +kernel
theorem dX11_copyShots_118 : decode cX11_copyShots 118 = .ok (.iload_n 3, 1) := by decide +kernel
theorem dX11_copyShots_119 : decode cX11_copyShots 119 = .ok (.iadd, 1) := by decide +kernel
theorem dX11_copyShots_120 : decode cX11_copyShots 120 = .ok (.aload_n 0, 1) := by decide +kernel
theorem dX11_copyShots_121 : decode cX11_copyShots 121 = .ok (.getfield 89, 3) := by decide +kernel
theorem dX11_copyShots_124 : decode cX11_copyShots 124 = .ok (.bipush 16, 2) := by decide +kernel
theorem dX11_copyShots_126 : decode cX11_copyShots 126 = .ok (.iload_n 1, 1) := by decide +kernel
theorem dX11_copyShots_127 : decode cX11_copyShots 127 = .ok (.imul, 1) := by decide +kernel
theorem dX11_copyShots_128 : decode cX11_copyShots 128 = .ok (.iload_n 3, 1) := by decide +kernel
theorem dX11_copyShots_129 : decode cX11_copyShots 129 = .ok (.iadd, 1) := by decide +kernel
theorem dX11_copyShots_130 : decode cX11_copyShots 130 = .ok (.iaload, 1) := by decide +kernel
theorem dX11_copyShots_131 : decode cX11_copyShots 131 = .ok (.iastore, 1) := by decide +kernel
theorem dX11_copyShots_132 : decode cX11_copyShots 132 = .ok (.iinc 3 1, 3) := by decide +kernel
theorem dX11_copyShots_135 : decode cX11_copyShots 135 = .ok (.goto (-75), 3) := by decide +kernel
theorem dX11_copyShots_138 : decode cX11_copyShots 138 = .ok (.iconst 0, 1) := by decide +kernel
theorem dX11_copyShots_139 : decode cX11_copyShots 139 = .ok (.istore_n 3, 1) := by decide +kernel
theorem dX11_copyShots_140 : decode cX11_copyShots 140 = .ok (.iload_n 3, 1) := by decide +kernel
theorem dX11_copyShots_141 : decode cX11_copyShots 141 = .ok (.bipush 8, 2) := by decide +kernel
theorem dX11_copyShots_143 : decode cX11_copyShots 143 = .ok (.if_icmp .ge 75, 3) := by decide +kernel
theorem dX11_copyShots_146 : decode cX11_copyShots 146 = .ok (.aload_n 0, 1) := by decide +kernel
theorem dX11_copyShots_147 : decode cX11_copyShots 147 = .ok (.getfield 80, 3) := by decide +kernel
theorem dX11_copyShots_150 : decode cX11_copyShots 150 = .ok (.bipush 8, 2) := by decide +kernel
theorem dX11_copyShots_152 : decode cX11_copyShots 152 = .ok (.iload_n 2, 1) := by decide +kernel
theorem dX11_copyShots_153 : decode cX11_copyShots 153 = .ok (.imul, 1) := by decide +kernel
theorem dX11_copyShots_154 : decode cX11_copyShots 154 = .ok (.iload_n 3, 1) := by decide +kernel
theorem dX11_copyShots_155 : decode cX11_copyShots 155 = .ok (.iadd, 1) := by decide +kernel
theorem dX11_copyShots_156 : decode cX11_copyShots 156 = .ok (.aload_n 0, 1) := by decide +kernel
theorem dX11_copyShots_157 : decode cX11_copyShots 157 = .ok (.getfield 80, 3) := by decide +kernel
theorem dX11_copyShots_160 : decode cX11_copyShots 160 = .ok (.bipush 8, 2) := by decide +kernel
theorem dX11_copyShots_162 : decode cX11_copyShots 162 = .ok (.iload_n 1, 1) := by decide +kernel
theorem dX11_copyShots_163 : decode cX11_copyShots 163 = .ok (.imul, 1) := by decide +kernel
theorem dX11_copyShots_164 : decode cX11_copyShots 164 = .ok (.iload_n 3, 1) := by decide +kernel
theorem dX11_copyShots_165 : decode cX11_copyShots 165 = .ok (.iadd, 1) := by decide +kernel
theorem dX11_copyShots_166 : decode cX11_copyShots 166 = .ok (.iaload, 1) := by decide +kernel
theorem dX11_copyShots_167 : decode cX11_copyShots 167 = .ok (.iastore, 1) := by decide +kernel
theorem dX11_copyShots_168 : decode cX11_copyShots 168 = .ok (.aload_n 0, 1) := by decide +kernel
theorem dX11_copyShots_169 : decode cX11_copyShots 169 = .ok (.getfield 83, 3) := by decide +kernel
theorem dX11_copyShots_172 : decode cX11_copyShots 172 = .ok (.bipush 8, 2) := by decide +kernel
theorem dX11_copyShots_174 : decode cX11_copyShots 174 = .ok (.iload_n 2, 1) := by decide +kernel
theorem dX11_copyShots_175 : decode cX11_copyShots 175 = .ok (.imul, 1) := by decide +kernel
theorem dX11_copyShots_176 : decode cX11_copyShots 176 = .ok (.iload_n 3, 1) := by decide +kernel
theorem dX11_copyShots_177 : decode cX11_copyShots 177 = .ok (.iadd, 1) := by decide +kernel
theorem dX11_copyShots_178 : decode cX11_copyShots 178 = .ok (.aload_n 0, 1) := by decide +kernel
theorem dX11_copyShots_179 : decode cX11_copyShots 179 = .ok (.getfield 83, 3) := by decide +kernel
theorem dX11_copyShots_182 : decode cX11_copyShots 182 = .ok (.bipush 8, 2) := by decide +kernel
theorem dX11_copyShots_184 : decode cX11_copyShots 184 = .ok (.iload_n 1, 1) := by decide +kernel
theorem dX11_copyShots_185 : decode cX11_copyShots 185 = .ok (.imul, 1) := by decide +kernel
theorem dX11_copyShots_186 : decode cX11_copyShots 186 = .ok (.iload_n 3, 1) := by decide +kernel
theorem dX11_copyShots_187 : decode cX11_copyShots 187 = .ok (.iadd, 1) := by decide +kernel
theorem dX11_copyShots_188 : decode cX11_copyShots 188 = .ok (.iaload, 1) := by decide +kernel
theorem dX11_copyShots_189 : decode cX11_copyShots 189 = .ok (.iastore, 1) := by decide +kernel
theorem dX11_copyShots_190 : decode cX11_copyShots 190 = .ok (.aload_n 0, 1) := by decide +kernel
theorem dX11_copyShots_191 : decode cX11_copyShots 191 = .ok (.getfield 86, 3) := by decide +kernel
theorem dX11_copyShots_194 : decode cX11_copyShots 194 = .ok (.bipush 8, 2) := by decide +kernel
theorem dX11_copyShots_196 : decode cX11_copyShots 196 = .ok (.iload_n 2, 1) := by decide +kernel
theorem dX11_copyShots_197 : decode cX11_copyShots 197 = .ok (.imul, 1) := by decide +kernel
theorem dX11_copyShots_198 : decode cX11_copyShots 198 = .ok (.iload_n 3, 1) := by decide +kernel
theorem dX11_copyShots_199 : decode cX11_copyShots 199 = .ok (.iadd, 1) := by decide +kernel
theorem dX11_copyShots_200 : decode cX11_copyShots 200 = .ok (.aload_n 0, 1) := by decide +kernel
theorem dX11_copyShots_201 : decode cX11_copyShots 201 = .ok (.getfield 86, 3) := by decide +kernel
theorem dX11_copyShots_204 : decode cX11_copyShots 204 = .ok (.bipush 8, 2) := by decide +kernel
theorem dX11_copyShots_206 : decode cX11_copyShots 206 = .ok (.iload_n 1, 1) := by decide +kernel
theorem dX11_copyShots_207 : decode cX11_copyShots 207 = .ok (.imul, 1) := by decide +kernel
theorem dX11_copyShots_208 : decode cX11_copyShots 208 = .ok (.iload_n 3, 1) := by decide +kernel
theorem dX11_copyShots_209 : decode cX11_copyShots 209 = .ok (.iadd, 1) := by decide +kernel
theorem dX11_copyShots_210 : decode cX11_copyShots 210 = .ok (.iaload, 1) := by decide +kernel
theorem dX11_copyShots_211 : decode cX11_copyShots 211 = .ok (.iastore, 1) := by decide +kernel
theorem dX11_copyShots_212 : decode cX11_copyShots 212 = .ok (.iinc 3 1, 3) := by decide +kernel
theorem dX11_copyShots_215 : decode cX11_copyShots 215 = .ok (.goto (-75), 3) := by decide +kernel
theorem dX11_copyShots_218 : decode cX11_copyShots 218 = .ok (.return_, 1) := by decide +kernel
def LX11_copyShots_2 (c1 : Int) (c2 : Int) (k58 : Mem → Option Res) : Nat → Int → Mem → Option Res
  | 0 => fun _ _ => none
  | n + 1 => fun x3 s => (if 48 ≤ x3 then
 k58 s
 else
 rd (s 117) (wr ((wr (48 * c1)) + x3)) 144 (fun v1 =>
 ST s 117 (wr ((wr (48 * c2)) + x3)) 144 v1 (fun s2 =>
 rd (s2 118) (wr ((wr (48 * c1)) + x3)) 144 (fun v3 =>
 ST s2 118 (wr ((wr (48 * c2)) + x3)) 144 v3 (fun s4 =>
 LX11_copyShots_2 c1 c2 k58 n (wr (x3 + 1)) s4)))))
def LX11_copyShots_60 (c1 : Int) (c2 : Int) (k138 : Mem → Option Res) : Nat → Int → Mem → Option Res
  | 0 => fun _ _ => none
  | n + 1 => fun x3 s => (if 16 ≤ x3 then
 k138 s
 else
 rd (s 119) (wr ((wr (16 * c1)) + x3)) 48 (fun v6 =>
 ST s 119 (wr ((wr (16 * c2)) + x3)) 48 v6 (fun s7 =>
 rd (s7 120) (wr ((wr (16 * c1)) + x3)) 48 (fun v8 =>
 ST s7 120 (wr ((wr (16 * c2)) + x3)) 48 v8 (fun s9 =>
 rd (s9 124) (wr ((wr (16 * c1)) + x3)) 48 (fun v10 =>
 ST s9 124 (wr ((wr (16 * c2)) + x3)) 48 v10 (fun s11 =>
 LX11_copyShots_60 c1 c2 k138 n (wr (x3 + 1)) s11)))))))
def LX11_copyShots_140 (c1 : Int) (c2 : Int) (k218 : Mem → Option Res) : Nat → Int → Mem → Option Res
  | 0 => fun _ _ => none
  | n + 1 => fun x3 s => (if 8 ≤ x3 then
 k218 s
 else
 rd (s 121) (wr ((wr (8 * c1)) + x3)) 24 (fun v13 =>
 ST s 121 (wr ((wr (8 * c2)) + x3)) 24 v13 (fun s14 =>
 rd (s14 122) (wr ((wr (8 * c1)) + x3)) 24 (fun v15 =>
 ST s14 122 (wr ((wr (8 * c2)) + x3)) 24 v15 (fun s16 =>
 rd (s16 123) (wr ((wr (8 * c1)) + x3)) 24 (fun v17 =>
 ST s16 123 (wr ((wr (8 * c2)) + x3)) 24 v17 (fun s18 =>
 LX11_copyShots_140 c1 c2 k218 n (wr (x3 + 1)) s18)))))))
def fX11_copyShots (a1 : Int) (a2 : Int) (s0 : Mem) : Option Res :=
 LX11_copyShots_2 a1 a2 (fun s5 =>
 LX11_copyShots_60 a1 a2 (fun s12 =>
 LX11_copyShots_140 a1 a2 (fun s19 =>
 some (0, s19)) FU 0 s12) FU 0 s5) FU 0 s0
set_option maxRecDepth 100000 in
set_option maxHeartbeats 4000000 in
theorem jLX11_copyShots_2 {K : KT} (hq : KV K none) (c1 : Int) (c2 : Int) (k58 : Mem → Option Res) (hk58 : ∀ (s : Mem), J K rmX11_copyShots cX11_copyShots RX11 4 58 [some (.inr (.inr 100)), some (.inl c1), some (.inl c2), none] [] s (k58 s)) : ∀ (n : Nat) (x3 : Int) (s : Mem), J K rmX11_copyShots cX11_copyShots RX11 4 2 [some (.inr (.inr 100)), some (.inl c1), some (.inl c2), some (.inl x3)] [] s (LX11_copyShots_2 c1 c2 k58 n x3 s) := by
  intro n
  induction n with
  | zero => intros; exact J_none
  | succ n ih =>
    intro x3 s
    show J K _ _ _ _ _ _ _ _ (LX11_copyShots_2 c1 c2 k58 (n + 1) x3 s)
    simp only [LX11_copyShots_2]
    refine j_iload_n dX11_copyShots_2 rfl rfl ?_
    refine j_bipush (v := 48) dX11_copyShots_3 (by decide +kernel) (inr_d rfl) ?_
    refine j_icmp_ge (tgt := 58) dX11_copyShots_5 rfl ?_ ?_
    · exact j_msk [true, true, true, false] (hk58 _)
    · refine j_aload_n dX11_copyShots_8 rfl rfl ?_
      refine j_getR fl_RX11_68 sh_100 rfl dX11_copyShots_9 ?_
      refine j_bipush (v := 48) dX11_copyShots_12 (by decide +kernel) (inr_d rfl) ?_
      refine j_iload_n dX11_copyShots_14 rfl rfl ?_
      refine j_imul dX11_copyShots_15 ?_
      refine j_iload_n dX11_copyShots_16 rfl rfl ?_
      refine j_iadd dX11_copyShots_17 ?_
      refine j_aload_n dX11_copyShots_18 rfl rfl ?_
      refine j_getR fl_RX11_68 sh_100 rfl dX11_copyShots_19 ?_
      refine j_bipush (v := 48) dX11_copyShots_22 (by decide +kernel) (inr_d rfl) ?_
      refine j_iload_n dX11_copyShots_24 rfl rfl ?_
      refine j_imul dX11_copyShots_25 ?_
      refine j_iload_n dX11_copyShots_26 rfl rfl ?_
      refine j_iadd dX11_copyShots_27 ?_
      refine j_iald sh_117 dX11_copyShots_28 (fun v1 => ?_)
      refine j_iast sh_117 dX11_copyShots_29 (fun s2 => ?_)
      refine j_aload_n dX11_copyShots_30 rfl rfl ?_
      refine j_getR fl_RX11_71 sh_100 rfl dX11_copyShots_31 ?_
      refine j_bipush (v := 48) dX11_copyShots_34 (by decide +kernel) (inr_d rfl) ?_
      refine j_iload_n dX11_copyShots_36 rfl rfl ?_
      refine j_imul dX11_copyShots_37 ?_
      refine j_iload_n dX11_copyShots_38 rfl rfl ?_
      refine j_iadd dX11_copyShots_39 ?_
      refine j_aload_n dX11_copyShots_40 rfl rfl ?_
      refine j_getR fl_RX11_71 sh_100 rfl dX11_copyShots_41 ?_
      refine j_bipush (v := 48) dX11_copyShots_44 (by decide +kernel) (inr_d rfl) ?_
      refine j_iload_n dX11_copyShots_46 rfl rfl ?_
      refine j_imul dX11_copyShots_47 ?_
      refine j_iload_n dX11_copyShots_48 rfl rfl ?_
      refine j_iadd dX11_copyShots_49 ?_
      refine j_iald sh_118 dX11_copyShots_50 (fun v3 => ?_)
      refine j_iast sh_118 dX11_copyShots_51 (fun s4 => ?_)
      refine j_iincE (ls2 := [some (.inr (.inr 100)), some (.inl c1), some (.inl c2), some (.inl (wr (x3 + 1)))]) dX11_copyShots_52 rfl (by decide) rfl rfl ?_
      refine j_goto (tgt := 2) dX11_copyShots_55 rfl ?_
      exact j_msk [true, true, true, true] (ih _ _)
set_option maxRecDepth 100000 in
set_option maxHeartbeats 4000000 in
theorem jLX11_copyShots_60 {K : KT} (hq : KV K none) (c1 : Int) (c2 : Int) (k138 : Mem → Option Res) (hk138 : ∀ (s : Mem), J K rmX11_copyShots cX11_copyShots RX11 4 138 [some (.inr (.inr 100)), some (.inl c1), some (.inl c2), none] [] s (k138 s)) : ∀ (n : Nat) (x3 : Int) (s : Mem), J K rmX11_copyShots cX11_copyShots RX11 4 60 [some (.inr (.inr 100)), some (.inl c1), some (.inl c2), some (.inl x3)] [] s (LX11_copyShots_60 c1 c2 k138 n x3 s) := by
  intro n
  induction n with
  | zero => intros; exact J_none
  | succ n ih =>
    intro x3 s
    show J K _ _ _ _ _ _ _ _ (LX11_copyShots_60 c1 c2 k138 (n + 1) x3 s)
    simp only [LX11_copyShots_60]
    refine j_iload_n dX11_copyShots_60 rfl rfl ?_
    refine j_bipush (v := 16) dX11_copyShots_61 (by decide +kernel) (inr_d rfl) ?_
    refine j_icmp_ge (tgt := 138) dX11_copyShots_63 rfl ?_ ?_
    · exact j_msk [true, true, true, false] (hk138 _)
    · refine j_aload_n dX11_copyShots_66 rfl rfl ?_
      refine j_getR fl_RX11_74 sh_100 rfl dX11_copyShots_67 ?_
      refine j_bipush (v := 16) dX11_copyShots_70 (by decide +kernel) (inr_d rfl) ?_
      refine j_iload_n dX11_copyShots_72 rfl rfl ?_
      refine j_imul dX11_copyShots_73 ?_
      refine j_iload_n dX11_copyShots_74 rfl rfl ?_
      refine j_iadd dX11_copyShots_75 ?_
      refine j_aload_n dX11_copyShots_76 rfl rfl ?_
      refine j_getR fl_RX11_74 sh_100 rfl dX11_copyShots_77 ?_
      refine j_bipush (v := 16) dX11_copyShots_80 (by decide +kernel) (inr_d rfl) ?_
      refine j_iload_n dX11_copyShots_82 rfl rfl ?_
      refine j_imul dX11_copyShots_83 ?_
      refine j_iload_n dX11_copyShots_84 rfl rfl ?_
      refine j_iadd dX11_copyShots_85 ?_
      refine j_iald sh_119 dX11_copyShots_86 (fun v6 => ?_)
      refine j_iast sh_119 dX11_copyShots_87 (fun s7 => ?_)
      refine j_aload_n dX11_copyShots_88 rfl rfl ?_
      refine j_getR fl_RX11_77 sh_100 rfl dX11_copyShots_89 ?_
      refine j_bipush (v := 16) dX11_copyShots_92 (by decide +kernel) (inr_d rfl) ?_
      refine j_iload_n dX11_copyShots_94 rfl rfl ?_
      refine j_imul dX11_copyShots_95 ?_
      refine j_iload_n dX11_copyShots_96 rfl rfl ?_
      refine j_iadd dX11_copyShots_97 ?_
      refine j_aload_n dX11_copyShots_98 rfl rfl ?_
      refine j_getR fl_RX11_77 sh_100 rfl dX11_copyShots_99 ?_
      refine j_bipush (v := 16) dX11_copyShots_102 (by decide +kernel) (inr_d rfl) ?_
      refine j_iload_n dX11_copyShots_104 rfl rfl ?_
      refine j_imul dX11_copyShots_105 ?_
      refine j_iload_n dX11_copyShots_106 rfl rfl ?_
      refine j_iadd dX11_copyShots_107 ?_
      refine j_iald sh_120 dX11_copyShots_108 (fun v8 => ?_)
      refine j_iast sh_120 dX11_copyShots_109 (fun s9 => ?_)
      refine j_aload_n dX11_copyShots_110 rfl rfl ?_
      refine j_getR fl_RX11_89 sh_100 rfl dX11_copyShots_111 ?_
      refine j_bipush (v := 16) dX11_copyShots_114 (by decide +kernel) (inr_d rfl) ?_
      refine j_iload_n dX11_copyShots_116 rfl rfl ?_
      refine j_imul dX11_copyShots_117 ?_
      refine j_iload_n dX11_copyShots_118 rfl rfl ?_
      refine j_iadd dX11_copyShots_119 ?_
      refine j_aload_n dX11_copyShots_120 rfl rfl ?_
      refine j_getR fl_RX11_89 sh_100 rfl dX11_copyShots_121 ?_
      refine j_bipush (v := 16) dX11_copyShots_124 (by decide +kernel) (inr_d rfl) ?_
      refine j_iload_n dX11_copyShots_126 rfl rfl ?_
      refine j_imul dX11_copyShots_127 ?_
      refine j_iload_n dX11_copyShots_128 rfl rfl ?_
      refine j_iadd dX11_copyShots_129 ?_
      refine j_iald sh_124 dX11_copyShots_130 (fun v10 => ?_)
      refine j_iast sh_124 dX11_copyShots_131 (fun s11 => ?_)
      refine j_iincE (ls2 := [some (.inr (.inr 100)), some (.inl c1), some (.inl c2), some (.inl (wr (x3 + 1)))]) dX11_copyShots_132 rfl (by decide) rfl rfl ?_
      refine j_goto (tgt := 60) dX11_copyShots_135 rfl ?_
      exact j_msk [true, true, true, true] (ih _ _)
set_option maxRecDepth 100000 in
set_option maxHeartbeats 4000000 in
theorem jLX11_copyShots_140 {K : KT} (hq : KV K none) (c1 : Int) (c2 : Int) (k218 : Mem → Option Res) (hk218 : ∀ (s : Mem), J K rmX11_copyShots cX11_copyShots RX11 4 218 [none, none, none, none] [] s (k218 s)) : ∀ (n : Nat) (x3 : Int) (s : Mem), J K rmX11_copyShots cX11_copyShots RX11 4 140 [some (.inr (.inr 100)), some (.inl c1), some (.inl c2), some (.inl x3)] [] s (LX11_copyShots_140 c1 c2 k218 n x3 s) := by
  intro n
  induction n with
  | zero => intros; exact J_none
  | succ n ih =>
    intro x3 s
    show J K _ _ _ _ _ _ _ _ (LX11_copyShots_140 c1 c2 k218 (n + 1) x3 s)
    simp only [LX11_copyShots_140]
    refine j_iload_n dX11_copyShots_140 rfl rfl ?_
    refine j_bipush (v := 8) dX11_copyShots_141 (by decide +kernel) (inr_d rfl) ?_
    refine j_icmp_ge (tgt := 218) dX11_copyShots_143 rfl ?_ ?_
    · exact j_msk [false, false, false, false] (hk218 _)
    · refine j_aload_n dX11_copyShots_146 rfl rfl ?_
      refine j_getR fl_RX11_80 sh_100 rfl dX11_copyShots_147 ?_
      refine j_bipush (v := 8) dX11_copyShots_150 (by decide +kernel) (inr_d rfl) ?_
      refine j_iload_n dX11_copyShots_152 rfl rfl ?_
      refine j_imul dX11_copyShots_153 ?_
      refine j_iload_n dX11_copyShots_154 rfl rfl ?_
      refine j_iadd dX11_copyShots_155 ?_
      refine j_aload_n dX11_copyShots_156 rfl rfl ?_
      refine j_getR fl_RX11_80 sh_100 rfl dX11_copyShots_157 ?_
      refine j_bipush (v := 8) dX11_copyShots_160 (by decide +kernel) (inr_d rfl) ?_
      refine j_iload_n dX11_copyShots_162 rfl rfl ?_
      refine j_imul dX11_copyShots_163 ?_
      refine j_iload_n dX11_copyShots_164 rfl rfl ?_
      refine j_iadd dX11_copyShots_165 ?_
      refine j_iald sh_121 dX11_copyShots_166 (fun v13 => ?_)
      refine j_iast sh_121 dX11_copyShots_167 (fun s14 => ?_)
      refine j_aload_n dX11_copyShots_168 rfl rfl ?_
      refine j_getR fl_RX11_83 sh_100 rfl dX11_copyShots_169 ?_
      refine j_bipush (v := 8) dX11_copyShots_172 (by decide +kernel) (inr_d rfl) ?_
      refine j_iload_n dX11_copyShots_174 rfl rfl ?_
      refine j_imul dX11_copyShots_175 ?_
      refine j_iload_n dX11_copyShots_176 rfl rfl ?_
      refine j_iadd dX11_copyShots_177 ?_
      refine j_aload_n dX11_copyShots_178 rfl rfl ?_
      refine j_getR fl_RX11_83 sh_100 rfl dX11_copyShots_179 ?_
      refine j_bipush (v := 8) dX11_copyShots_182 (by decide +kernel) (inr_d rfl) ?_
      refine j_iload_n dX11_copyShots_184 rfl rfl ?_
      refine j_imul dX11_copyShots_185 ?_
      refine j_iload_n dX11_copyShots_186 rfl rfl ?_
      refine j_iadd dX11_copyShots_187 ?_
      refine j_iald sh_122 dX11_copyShots_188 (fun v15 => ?_)
      refine j_iast sh_122 dX11_copyShots_189 (fun s16 => ?_)
      refine j_aload_n dX11_copyShots_190 rfl rfl ?_
      refine j_getR fl_RX11_86 sh_100 rfl dX11_copyShots_191 ?_
      refine j_bipush (v := 8) dX11_copyShots_194 (by decide +kernel) (inr_d rfl) ?_
      refine j_iload_n dX11_copyShots_196 rfl rfl ?_
      refine j_imul dX11_copyShots_197 ?_
      refine j_iload_n dX11_copyShots_198 rfl rfl ?_
      refine j_iadd dX11_copyShots_199 ?_
      refine j_aload_n dX11_copyShots_200 rfl rfl ?_
      refine j_getR fl_RX11_86 sh_100 rfl dX11_copyShots_201 ?_
      refine j_bipush (v := 8) dX11_copyShots_204 (by decide +kernel) (inr_d rfl) ?_
      refine j_iload_n dX11_copyShots_206 rfl rfl ?_
      refine j_imul dX11_copyShots_207 ?_
      refine j_iload_n dX11_copyShots_208 rfl rfl ?_
      refine j_iadd dX11_copyShots_209 ?_
      refine j_iald sh_123 dX11_copyShots_210 (fun v17 => ?_)
      refine j_iast sh_123 dX11_copyShots_211 (fun s18 => ?_)
      refine j_iincE (ls2 := [some (.inr (.inr 100)), some (.inl c1), some (.inl c2), some (.inl (wr (x3 + 1)))]) dX11_copyShots_212 rfl (by decide) rfl rfl ?_
      refine j_goto (tgt := 140) dX11_copyShots_215 rfl ?_
      exact j_msk [true, true, true, true] (ih _ _)
set_option maxRecDepth 100000 in
set_option maxHeartbeats 4000000 in
theorem mX11_copyShots (l : Launch) (D : va_G) (ad : Nat → Nat) (cA : Nat → ClassId) (a1 : Int) (a2 : Int) (s0 : Mem) : MCv l D ad cA yX11_copyShots cX11_copyShots 4 none rmX11_copyShots [.inr (.inr 100), .inl a1, .inl a2] s0 (fX11_copyShots a1 a2 s0) := by
  refine MCv_ofE (own := RX11) (ls := [some (.inr (.inr 100)), some (.inl a1), some (.inl a2), none]) 1 (by decide +kernel) rfl rfl (fun _ => Nat.le_of_ble_eq_true rfl) (fun K hq => ?_)
  unfold fX11_copyShots
  refine j_iconst dX11_copyShots_0 (inr_d rfl) ?_
  refine j_istore_nE (ls2 := [some (.inr (.inr 100)), some (.inl a1), some (.inl a2), some (.inl 0)]) dX11_copyShots_1 rfl (by decide) rfl rfl ?_
  refine j_msk [true, true, true, true] (jLX11_copyShots_2 hq _ _ _ (fun s5 => ?_) _ _ _)
  refine j_iconst dX11_copyShots_58 (inr_d rfl) ?_
  refine j_istore_nE (ls2 := [some (.inr (.inr 100)), some (.inl a1), some (.inl a2), some (.inl 0)]) dX11_copyShots_59 rfl (by decide) rfl rfl ?_
  refine j_msk [true, true, true, true] (jLX11_copyShots_60 hq _ _ _ (fun s12 => ?_) _ _ _)
  refine j_iconst dX11_copyShots_138 (inr_d rfl) ?_
  refine j_istore_nE (ls2 := [some (.inr (.inr 100)), some (.inl a1), some (.inl a2), some (.inl 0)]) dX11_copyShots_139 rfl (by decide) rfl rfl ?_
  refine j_msk [true, true, true, true] (jLX11_copyShots_140 hq _ _ _ (fun s19 => ?_) _ _ _)
  exact j_vret hq dX11_copyShots_218
abbrev rmX11_keep : Room := { frames := 1, cells := 0, slots := 0, locals := 23 }
theorem dX11_keep_0 : decode cX11_keep 0 = .ok (.aload_n 0, 1) := by decide +kernel
theorem dX11_keep_1 : decode cX11_keep 1 = .ok (.getfield 273, 3) := by decide +kernel
theorem dX11_keep_4 : decode cX11_keep 4 = .ok (.iconst 2, 1) := by decide +kernel
theorem dX11_keep_5 : decode cX11_keep 5 = .ok (.if_icmp .ne 6, 3) := by decide +kernel
theorem dX11_keep_8 : decode cX11_keep 8 = .ok (.bipush (-3), 2) := by decide +kernel
theorem dX11_keep_10 : decode cX11_keep 10 = .ok (.ireturn, 1) := by decide +kernel
theorem dX11_keep_11 : decode cX11_keep 11 = .ok (.aload_n 0, 1) := by decide +kernel
theorem dX11_keep_12 : decode cX11_keep 12 = .ok (.iconst 1, 1) := by decide +kernel
theorem dX11_keep_13 : decode cX11_keep 13 = .ok (.iconst 2, 1) := by decide +kernel
theorem dX11_keep_14 : decode cX11_keep 14 = .ok (.aload_n 0, 1) := by decide +kernel
theorem dX11_keep_15 : decode cX11_keep 15 = .ok (.getfield 273, 3) := by decide +kernel
theorem dX11_keep_18 : decode cX11_keep 18 = .ok (.iadd, 1) := by decide +kernel
theorem dX11_keep_19 : decode cX11_keep 19 = .ok (.invokevirtual 188, 3) := by decide +kernel
theorem dX11_keep_22 : decode cX11_keep 22 = .ok (.aload_n 0, 1) := by decide +kernel
theorem dX11_keep_23 : decode cX11_keep 23 = .ok (.iconst 0, 1) := by decide +kernel
theorem dX11_keep_24 : decode cX11_keep 24 = .ok (.iconst 1, 1) := by decide +kernel
theorem dX11_keep_25 : decode cX11_keep 25 = .ok (.aload_n 0, 1) := by decide +kernel
theorem dX11_keep_26 : decode cX11_keep 26 = .ok (.getfield 273, 3) := by decide +kernel
theorem dX11_keep_29 : decode cX11_keep 29 = .ok (.iadd, 1) := by decide +kernel
theorem dX11_keep_30 : decode cX11_keep 30 = .ok (.invokevirtual 276, 3) := by decide +kernel
theorem dX11_keep_33 : decode cX11_keep 33 = .ok (.aload_n 0, 1) := by decide +kernel
theorem dX11_keep_34 : decode cX11_keep 34 = .ok (.getfield 92, 3) := by decide +kernel
theorem dX11_keep_37 : decode cX11_keep 37 = .ok (.aload_n 0, 1) := by decide +kernel
theorem dX11_keep_38 : decode cX11_keep 38 = .ok (.getfield 273, 3) := by decide +kernel
theorem dX11_keep_41 : decode cX11_keep 41 = .ok (.aload_n 0, 1) := by decide +kernel
theorem dX11_keep_42 : decode cX11_keep 42 = .ok (.getfield 191, 3) := by decide +kernel
theorem dX11_keep_45 : decode cX11_keep 45 = .ok (.ifCond .eq 7, 3) := by decide +kernel
theorem dX11_keep_48 : decode cX11_keep 48 = .ok (.iconst 1, 1) := by decide +kernel
theorem dX11_keep_49 : decode cX11_keep 49 = .ok (.goto 4, 3) := by decide +kernel
theorem dX11_keep_52 : decode cX11_keep 52 = .ok (.iconst 0, 1) := by decide +kernel
theorem dX11_keep_53 : decode cX11_keep 53 = .ok (.iastore, 1) := by decide +kernel
theorem dX11_keep_54 : decode cX11_keep 54 = .ok (.aload_n 0, 1) := by decide +kernel
theorem dX11_keep_55 : decode cX11_keep 55 = .ok (.dup, 1) := by decide +kernel
theorem dX11_keep_56 : decode cX11_keep 56 = .ok (.getfield 273, 3) := by decide +kernel
theorem dX11_keep_59 : decode cX11_keep 59 = .ok (.iconst 1, 1) := by decide +kernel
theorem dX11_keep_60 : decode cX11_keep 60 = .ok (.iadd, 1) := by decide +kernel
theorem dX11_keep_61 : decode cX11_keep 61 = .ok (.putfield 273, 3) := by decide +kernel
theorem dX11_keep_64 : decode cX11_keep 64 = .ok (.aload_n 0, 1) := by decide +kernel
theorem dX11_keep_65 : decode cX11_keep 65 = .ok (.getfield 273, 3) := by decide +kernel
theorem dX11_keep_68 : decode cX11_keep 68 = .ok (.ireturn, 1) := by decide +kernel
def fX11_keep (s0 : Mem) : Option Res :=
 (if s0 100 31 ≠ 2 then
 bnd (fX11_copyList 1 (wr (2 + (s0 100 31))) s0) (fun _ s2 =>
 bnd (fX11_copyShots 0 (wr (1 + (s2 100 31))) s2) (fun _ s4 =>
 jn (fun (u5 : Int) (s6 : Mem) =>
 ST s6 125 (s4 100 31) 2 u5 (fun s7 =>
 lt (up s7 100 31 (wr ((s7 100 31) + 1))) (fun s8 =>
 some (s8 100 31, s8)))) (fun k53 =>
 (if s4 100 19 = 0 then
 k53 0 s4
 else
 k53 1 s4))))
 else
 some ((-3), s0))
set_option maxRecDepth 100000 in
set_option maxHeartbeats 4000000 in
theorem mX11_keep (l : Launch) (D : va_G) (ad : Nat → Nat) (cA : Nat → ClassId) (s0 : Mem) : MCi l D ad cA yX11_keep cX11_keep 1 (some .int) rmX11_keep [.inr (.inr 100)] s0 (fX11_keep s0) := by
  refine MCi_ofE (own := RX11) (ls := [some (.inr (.inr 100))]) 0 (by decide +kernel) rfl rfl (fun _ => Nat.le_of_ble_eq_true rfl) (fun K hq => ?_)
  unfold fX11_keep
  refine j_aload_n dX11_keep_0 rfl rfl ?_
  refine j_getI fl_RX11_273 sh_100 rfl dX11_keep_1 ?_
  refine j_iconst dX11_keep_4 (inr_d rfl) ?_
  refine j_icmp_ne (tgt := 11) dX11_keep_5 rfl ?_ ?_
  · refine j_aload_n dX11_keep_11 rfl rfl ?_
    refine j_iconst dX11_keep_12 (inr_d rfl) ?_
    refine j_iconst dX11_keep_13 (inr_d rfl) ?_
    refine j_aload_n dX11_keep_14 rfl rfl ?_
    refine j_getI fl_RX11_273 sh_100 rfl dX11_keep_15 ?_
    refine j_iadd dX11_keep_18 ?_
    refine j_callVv (mX11_copyList (kl K) (kD K) (kad K) (kcA K) 1 (wr (2 + (s0 100 31))) s0) cw_RX11_188 sh_100 rfl ⟨rfl, rfl, by decide, by decide⟩ rfl rfl (Nat.le_of_ble_eq_true rfl) dX11_keep_19 (fun _ s2 => ?_)
    refine j_aload_n dX11_keep_22 rfl rfl ?_
    refine j_iconst dX11_keep_23 (inr_d rfl) ?_
    refine j_iconst dX11_keep_24 (inr_d rfl) ?_
    refine j_aload_n dX11_keep_25 rfl rfl ?_
    refine j_getI fl_RX11_273 sh_100 rfl dX11_keep_26 ?_
    refine j_iadd dX11_keep_29 ?_
    refine j_callVv (mX11_copyShots (kl K) (kD K) (kad K) (kcA K) 0 (wr (1 + (s2 100 31))) s2) cw_RX11_276 sh_100 rfl ⟨rfl, rfl, by decide, by decide⟩ rfl rfl (Nat.le_of_ble_eq_true rfl) dX11_keep_30 (fun _ s4 => ?_)
    refine j_aload_n dX11_keep_33 rfl rfl ?_
    refine j_getR fl_RX11_92 sh_100 rfl dX11_keep_34 ?_
    refine j_aload_n dX11_keep_37 rfl rfl ?_
    refine j_getI fl_RX11_273 sh_100 rfl dX11_keep_38 ?_
    refine j_aload_n dX11_keep_41 rfl rfl ?_
    refine j_getI fl_RX11_191 sh_100 rfl dX11_keep_42 ?_
    refine j_jn (fun k53 => ∀ (u5 : Int) (s6 : Mem), J K rmX11_keep cX11_keep RX11 1 53 [some (.inr (.inr 100))] [.inl u5, .inl (s4 100 31), .inr (.inr 125)] s6 (k53 u5 s6)) (fun u5 s6 => ?_) (fun k53 hk53 => ?_)
    · refine j_iast sh_125 dX11_keep_53 (fun s7 => ?_)
      refine j_aload_n dX11_keep_54 rfl rfl ?_
      refine j_dup rfl dX11_keep_55 ?_
      refine j_getI fl_RX11_273 sh_100 rfl dX11_keep_56 ?_
      refine j_iconst dX11_keep_59 (inr_d rfl) ?_
      refine j_iadd dX11_keep_60 ?_
      refine j_putI fp_RX11_273 sh_100 rfl dX11_keep_61 (fun s8 => ?_)
      refine j_aload_n dX11_keep_64 rfl rfl ?_
      refine j_getI fl_RX11_273 sh_100 rfl dX11_keep_65 ?_
      exact j_iret hq dX11_keep_68
    refine j_if_eq (tgt := 52) dX11_keep_45 rfl ?_ ?_
    · refine j_iconst dX11_keep_52 (inr_d rfl) ?_
      exact j_msk [true] (hk53 _ _)
    · refine j_iconst dX11_keep_48 (inr_d rfl) ?_
      refine j_goto (tgt := 53) dX11_keep_49 rfl ?_
      exact j_msk [true] (hk53 _ _)
  · refine j_bipush (v := (-3)) dX11_keep_8 (by decide +kernel) (inr_d rfl) ?_
    exact j_iret hq dX11_keep_10
abbrev rmX11_back : Room := { frames := 1, cells := 0, slots := 0, locals := 23 }
theorem dX11_back_0 : decode cX11_back 0 = .ok (.aload_n 0, 1) := by decide +kernel
theorem dX11_back_1 : decode cX11_back 1 = .ok (.getfield 273, 3) := by decide +kernel
theorem dX11_back_4 : decode cX11_back 4 = .ok (.ifCond .ne 6, 3) := by decide +kernel
theorem dX11_back_7 : decode cX11_back 7 = .ok (.bipush (-2), 2) := by decide +kernel
theorem dX11_back_9 : decode cX11_back 9 = .ok (.ireturn, 1) := by decide +kernel
theorem dX11_back_10 : decode cX11_back 10 = .ok (.aload_n 0, 1) := by decide +kernel
theorem dX11_back_11 : decode cX11_back 11 = .ok (.dup, 1) := by decide +kernel
theorem dX11_back_12 : decode cX11_back 12 = .ok (.getfield 273, 3) := by decide +kernel
theorem dX11_back_15 : decode cX11_back 15 = .ok (.iconst 1, 1) := by decide +kernel
theorem dX11_back_16 : decode cX11_back 16 = .ok (.isub, 1) := by decide +kernel
theorem dX11_back_17 : decode cX11_back 17 = .ok (.putfield 273, 3) := by decide +kernel
theorem dX11_back_20 : decode cX11_back 20 = .ok (.aload_n 0, 1) := by decide +kernel
theorem dX11_back_21 : decode cX11_back 21 = .ok (.iconst 2, 1) := by decide +kernel
theorem dX11_back_22 : decode cX11_back 22 = .ok (.aload_n 0, 1) := by decide +kernel
theorem dX11_back_23 : decode cX11_back 23 = .ok (.getfield 273, 3) := by decide +kernel
theorem dX11_back_26 : decode cX11_back 26 = .ok (.iadd, 1) := by decide +kernel
theorem dX11_back_27 : decode cX11_back 27 = .ok (.iconst 1, 1) := by decide +kernel
theorem dX11_back_28 : decode cX11_back 28 = .ok (.invokevirtual 188, 3) := by decide +kernel
theorem dX11_back_31 : decode cX11_back 31 = .ok (.aload_n 0, 1) := by decide +kernel
theorem dX11_back_32 : decode cX11_back 32 = .ok (.iconst 1, 1) := by decide +kernel
theorem dX11_back_33 : decode cX11_back 33 = .ok (.aload_n 0, 1) := by decide +kernel
theorem dX11_back_34 : decode cX11_back 34 = .ok (.getfield 273, 3) := by decide +kernel
theorem dX11_back_37 : decode cX11_back 37 = .ok (.iadd, 1) := by decide +kernel
theorem dX11_back_38 : decode cX11_back 38 = .ok (.iconst 0, 1) := by decide +kernel
theorem dX11_back_39 : decode cX11_back 39 = .ok (.invokevirtual 276, 3) := by decide +kernel
theorem dX11_back_42 : decode cX11_back 42 = .ok (.aload_n 0, 1) := by decide +kernel
theorem dX11_back_43 : decode cX11_back 43 = .ok (.aload_n 0, 1) := by decide +kernel
theorem dX11_back_44 : decode cX11_back 44 = .ok (.getfield 92, 3) := by decide +kernel
theorem dX11_back_47 : decode cX11_back 47 = .ok (.aload_n 0, 1) := by decide +kernel
theorem dX11_back_48 : decode cX11_back 48 = .ok (.getfield 273, 3) := by decide +kernel
theorem dX11_back_51 : decode cX11_back 51 = .ok (.iaload, 1) := by decide +kernel
theorem dX11_back_52 : decode cX11_back 52 = .ok (.iconst 1, 1) := by decide +kernel
theorem dX11_back_53 : decode cX11_back 53 = .ok (.if_icmp .ne 7, 3) := by decide +kernel
theorem dX11_back_56 : decode cX11_back 56 = .ok (.iconst 1, 1) := by decide +kernel
theorem dX11_back_57 : decode cX11_back 57 = .ok (.goto 4, 3) := by decide +kernel
theorem dX11_back_60 : decode cX11_back 60 = .ok (.iconst 0, 1) := by decide +kernel
theorem dX11_back_61 : decode cX11_back 61 = .ok (.putfield 191, 3) := by decide +kernel
theorem dX11_back_64 : decode cX11_back 64 = .ok (.aload_n 0, 1) := by decide +kernel
theorem dX11_back_65 : decode cX11_back 65 = .ok (.getfield 273, 3) := by decide +kernel
theorem dX11_back_68 : decode cX11_back 68 = .ok (.ireturn, 1) := by decide +kernel
def fX11_back (s0 : Mem) : Option Res :=
 (if s0 100 31 ≠ 0 then
 lt (up s0 100 31 (wr ((s0 100 31) - 1))) (fun s1 =>
 bnd (fX11_copyList (wr (2 + (s1 100 31))) 1 s1) (fun _ s3 =>
 bnd (fX11_copyShots (wr (1 + (s3 100 31))) 0 s3) (fun _ s5 =>
 rd (s5 125) (s5 100 31) 2 (fun v6 =>
 jn (fun (u7 : Int) (s8 : Mem) =>
 zp u7 (lt (up s8 100 19 u7) (fun s9 =>
 some (s9 100 31, s9)))) (fun k61 =>
 (if v6 ≠ 1 then
 k61 0 s5
 else
 k61 1 s5))))))
 else
 some ((-2), s0))
set_option maxRecDepth 100000 in
set_option maxHeartbeats 4000000 in
theorem mX11_back (l : Launch) (D : va_G) (ad : Nat → Nat) (cA : Nat → ClassId) (s0 : Mem) : MCi l D ad cA yX11_back cX11_back 1 (some .int) rmX11_back [.inr (.inr 100)] s0 (fX11_back s0) := by
  refine MCi_ofE (own := RX11) (ls := [some (.inr (.inr 100))]) 0 (by decide +kernel) rfl rfl (fun _ => Nat.le_of_ble_eq_true rfl) (fun K hq => ?_)
  unfold fX11_back
  refine j_aload_n dX11_back_0 rfl rfl ?_
  refine j_getI fl_RX11_273 sh_100 rfl dX11_back_1 ?_
  refine j_if_ne (tgt := 10) dX11_back_4 rfl ?_ ?_
  · refine j_aload_n dX11_back_10 rfl rfl ?_
    refine j_dup rfl dX11_back_11 ?_
    refine j_getI fl_RX11_273 sh_100 rfl dX11_back_12 ?_
    refine j_iconst dX11_back_15 (inr_d rfl) ?_
    refine j_isub dX11_back_16 ?_
    refine j_putI fp_RX11_273 sh_100 rfl dX11_back_17 (fun s1 => ?_)
    refine j_aload_n dX11_back_20 rfl rfl ?_
    refine j_iconst dX11_back_21 (inr_d rfl) ?_
    refine j_aload_n dX11_back_22 rfl rfl ?_
    refine j_getI fl_RX11_273 sh_100 rfl dX11_back_23 ?_
    refine j_iadd dX11_back_26 ?_
    refine j_iconst dX11_back_27 (inr_d rfl) ?_
    refine j_callVv (mX11_copyList (kl K) (kD K) (kad K) (kcA K) (wr (2 + (s1 100 31))) 1 s1) cw_RX11_188 sh_100 rfl ⟨rfl, rfl, by decide, by decide⟩ rfl rfl (Nat.le_of_ble_eq_true rfl) dX11_back_28 (fun _ s3 => ?_)
    refine j_aload_n dX11_back_31 rfl rfl ?_
    refine j_iconst dX11_back_32 (inr_d rfl) ?_
    refine j_aload_n dX11_back_33 rfl rfl ?_
    refine j_getI fl_RX11_273 sh_100 rfl dX11_back_34 ?_
    refine j_iadd dX11_back_37 ?_
    refine j_iconst dX11_back_38 (inr_d rfl) ?_
    refine j_callVv (mX11_copyShots (kl K) (kD K) (kad K) (kcA K) (wr (1 + (s3 100 31))) 0 s3) cw_RX11_276 sh_100 rfl ⟨rfl, rfl, by decide, by decide⟩ rfl rfl (Nat.le_of_ble_eq_true rfl) dX11_back_39 (fun _ s5 => ?_)
    refine j_aload_n dX11_back_42 rfl rfl ?_
    refine j_aload_n dX11_back_43 rfl rfl ?_
    refine j_getR fl_RX11_92 sh_100 rfl dX11_back_44 ?_
    refine j_aload_n dX11_back_47 rfl rfl ?_
    refine j_getI fl_RX11_273 sh_100 rfl dX11_back_48 ?_
    refine j_iald sh_125 dX11_back_51 (fun v6 => ?_)
    refine j_iconst dX11_back_52 (inr_d rfl) ?_
    refine j_jn (fun k61 => ∀ (u7 : Int) (s8 : Mem), J K rmX11_back cX11_back RX11 1 61 [some (.inr (.inr 100))] [.inl u7, .inr (.inr 100)] s8 (k61 u7 s8)) (fun u7 s8 => ?_) (fun k61 hk61 => ?_)
    · refine j_putZ fp_RX11_191 sh_100 rfl dX11_back_61 (fun s9 => ?_)
      refine j_aload_n dX11_back_64 rfl rfl ?_
      refine j_getI fl_RX11_273 sh_100 rfl dX11_back_65 ?_
      exact j_iret hq dX11_back_68
    refine j_icmp_ne (tgt := 60) dX11_back_53 rfl ?_ ?_
    · refine j_iconst dX11_back_60 (inr_d rfl) ?_
      exact j_msk [true] (hk61 _ _)
    · refine j_iconst dX11_back_56 (inr_d rfl) ?_
      refine j_goto (tgt := 61) dX11_back_57 rfl ?_
      exact j_msk [true] (hk61 _ _)
  · refine j_bipush (v := (-2)) dX11_back_7 (by decide +kernel) (inr_d rfl) ?_
    exact j_iret hq dX11_back_9
abbrev rmX11_count : Room := { frames := 2, cells := 0, slots := 0, locals := 43 }
theorem dX11_count_0 : decode cX11_count 0 = .ok (.iconst 0, 1) := by decide +kernel
theorem dX11_count_1 : decode cX11_count 1 = .ok (.istore_n 2, 1) := by decide +kernel
theorem dX11_count_2 : decode cX11_count 2 = .ok (.iload_n 1, 1) := by decide +kernel
theorem dX11_count_3 : decode cX11_count 3 = .ok (.tableswitch 104 0 6 #[41, 46, 51, 84, 89, 94, 99], 41) := by decide +kernel
theorem dX11_count_44 : decode cX11_count 44 = .ok (.aload_n 0, 1) := by decide +kernel
theorem dX11_count_45 : decode cX11_count 45 = .ok (.getfield 156, 3) := by decide +kernel
theorem dX11_count_48 : decode cX11_count 48 = .ok (.ireturn, 1) := by decide +kernel
theorem dX11_count_49 : decode cX11_count 49 = .ok (.aload_n 0, 1) := by decide +kernel
theorem dX11_count_50 : decode cX11_count 50 = .ok (.getfield 232, 3) := by decide +kernel
theorem dX11_count_53 : decode cX11_count 53 = .ok (.ireturn, 1) := by decide +kernel
theorem dX11_count_54 : decode cX11_count 54 = .ok (.iconst 0, 1) := by decide +kernel
theorem dX11_count_55 : decode cX11_count 55 = .ok (.istore_n 3, 1) := by decide +kernel
theorem dX11_count_56 : decode cX11_count 56 = .ok (.iload_n 3, 1) := by decide +kernel
theorem dX11_count_57 : decode cX11_count 57 = .ok (.bipush 8, 2) := by decide +kernel
theorem dX11_count_59 : decode cX11_count 59 = .ok (.if_icmp .ge 26, 3) := by decide +kernel
theorem dX11_count_62 : decode cX11_count 62 = .ok (.iload_n 2, 1) := by decide +kernel
theorem dX11_count_63 : decode cX11_count 63 = .ok (.aload_n 0, 1) := by decide +kernel
theorem dX11_count_64 : decode cX11_count 64 = .ok (.getfield 86, 3) := by decide +kernel
theorem dX11_count_67 : decode cX11_count 67 = .ok (.iload_n 3, 1) := by decide +kernel
theorem dX11_count_68 : decode cX11_count 68 = .ok (.iaload, 1) := by decide +kernel
theorem dX11_count_69 : decode cX11_count 69 = .ok (.ifCond .le 7, 3) := by decide +kernel
theorem dX11_count_72 : decode cX11_count 72 = .ok (.iconst 1, 1) := by decide +kernel
theorem dX11_count_73 : decode cX11_count 73 = .ok (.goto 4, 3) := by decide +kernel
theorem dX11_count_76 : decode cX11_count 76 = .ok (.iconst 0, 1) := by decide +kernel
theorem dX11_count_77 : decode cX11_count 77 = .ok (.iadd, 1) := by decide +kernel
theorem dX11_count_78 : decode cX11_count 78 = .ok (.istore_n 2, 1) := by decide +kernel
theorem dX11_count_79 : decode cX11_count 79 = .ok (.iinc 3 1, 3) := by decide +kernel
theorem dX11_count_82 : decode cX11_count 82 = .ok (.goto (-26), 3) := by decide +kernel
theorem dX11_count_85 : decode cX11_count 85 = .ok (.iload_n 2, 1) := by decide +kernel
theorem dX11_count_86 : decode cX11_count 86 = .ok (.ireturn, 1) := by decide +kernel
theorem dX11_count_87 : decode cX11_count 87 = .ok (.aload_n 0, 1) := by decide +kernel
theorem dX11_count_88 : decode cX11_count 88 = .ok (.getfield 248, 3) := by decide +kernel
theorem dX11_count_91 : decode cX11_count 91 = .ok (.ireturn, 1) := by decide +kernel
theorem dX11_count_92 : decode cX11_count 92 = .ok (.aload_n 0, 1) := by decide +kernel
theorem dX11_count_93 : decode cX11_count 93 = .ok (.invokevirtual 242, 3) := by decide +kernel
theorem dX11_count_96 : decode cX11_count 96 = .ok (.ireturn, 1) := by decide +kernel
theorem dX11_count_97 : decode cX11_count 97 = .ok (.aload_n 0, 1) := by decide +kernel
theorem dX11_count_98 : decode cX11_count 98 = .ok (.getfield 273, 3) := by decide +kernel
theorem dX11_count_101 : decode cX11_count 101 = .ok (.ireturn, 1) := by decide +kernel
theorem dX11_count_102 : decode cX11_count 102 = .ok (.aload_n 0, 1) := by decide +kernel
theorem dX11_count_103 : decode cX11_count 103 = .ok (.getfield 245, 3) := by decide +kernel
theorem dX11_count_106 : decode cX11_count 106 = .ok (.ireturn, 1) := by decide +kernel
theorem dX11_count_107 : decode cX11_count 107 = .ok (.iconst (-1), 1) := by decide +kernel
theorem dX11_count_108 : decode cX11_count 108 = .ok (.ireturn, 1) := by decide +kernel
def LX11_count_56 (k85 : Int → Mem → Option Res) : Nat → Int → Int → Mem → Option Res
  | 0 => fun _ _ _ => none
  | n + 1 => fun x2 x3 s => (if 8 ≤ x3 then
 k85 x2 s
 else
 rd (s 123) x3 24 (fun v1 =>
 (if v1 ≤ 0 then
 lt (wr (x2 + 0)) (fun v2 =>
 LX11_count_56 k85 n v2 (wr (x3 + 1)) s)
 else
 lt (wr (x2 + 1)) (fun v3 =>
 LX11_count_56 k85 n v3 (wr (x3 + 1)) s))))
def fX11_count (a1 : Int) (s0 : Mem) : Option Res :=
 (if a1 = 0 then
 some (s0 100 20, s0)
 else
 (if a1 = 1 then
 some (s0 100 38, s0)
 else
 (if a1 = 2 then
 LX11_count_56 (fun y5 s4 =>
 some (y5, s4)) FU 0 0 s0
 else
 (if a1 = 3 then
 some (s0 100 42, s0)
 else
 (if a1 = 4 then
 bnd (fX11_openMany s0) (fun r6 s7 =>
 some (r6, s7))
 else
 (if a1 = 5 then
 some (s0 100 31, s0)
 else
 (if a1 = 6 then
 some (s0 100 32, s0)
 else
 some ((-1), s0))))))))
set_option maxRecDepth 100000 in
set_option maxHeartbeats 4000000 in
theorem jLX11_count_56 {K : KT} (hq : KI K (some .int)) (k85 : Int → Mem → Option Res) (hk85 : ∀ (y2 : Int) (s : Mem), J K rmX11_count cX11_count RX11 4 85 [none, none, some (.inl y2), none] [] s (k85 y2 s)) : ∀ (n : Nat) (x2 : Int) (x3 : Int) (s : Mem), J K rmX11_count cX11_count RX11 4 56 [some (.inr (.inr 100)), none, some (.inl x2), some (.inl x3)] [] s (LX11_count_56 k85 n x2 x3 s) := by
  intro n
  induction n with
  | zero => intros; exact J_none
  | succ n ih =>
    intro x2 x3 s
    show J K _ _ _ _ _ _ _ _ (LX11_count_56 k85 (n + 1) x2 x3 s)
    simp only [LX11_count_56]
    refine j_iload_n dX11_count_56 rfl rfl ?_
    refine j_bipush (v := 8) dX11_count_57 (by decide +kernel) (inr_d rfl) ?_
    refine j_icmp_ge (tgt := 85) dX11_count_59 rfl ?_ ?_
    · exact j_msk [false, false, true, false] (hk85 _ _)
    · refine j_iload_n dX11_count_62 rfl rfl ?_
      refine j_aload_n dX11_count_63 rfl rfl ?_
      refine j_getR fl_RX11_86 sh_100 rfl dX11_count_64 ?_
      refine j_iload_n dX11_count_67 rfl rfl ?_
      refine j_iald sh_123 dX11_count_68 (fun v1 => ?_)
      refine j_if_le (tgt := 76) dX11_count_69 rfl ?_ ?_
      · refine j_iconst dX11_count_76 (inr_d rfl) ?_
        refine j_iadd dX11_count_77 ?_
        refine j_ltv (fun v2 => ?_)
        refine j_istore_nE (ls2 := [some (.inr (.inr 100)), none, some (.inl v2), some (.inl x3)]) dX11_count_78 rfl (by decide) rfl rfl ?_
        refine j_iincE (ls2 := [some (.inr (.inr 100)), none, some (.inl v2), some (.inl (wr (x3 + 1)))]) dX11_count_79 rfl (by decide) rfl rfl ?_
        refine j_goto (tgt := 56) dX11_count_82 rfl ?_
        exact j_msk [true, false, true, true] (ih _ _ _)
      · refine j_iconst dX11_count_72 (inr_d rfl) ?_
        refine j_goto (tgt := 77) dX11_count_73 rfl ?_
        refine j_iadd dX11_count_77 ?_
        refine j_ltv (fun v3 => ?_)
        refine j_istore_nE (ls2 := [some (.inr (.inr 100)), none, some (.inl v3), some (.inl x3)]) dX11_count_78 rfl (by decide) rfl rfl ?_
        refine j_iincE (ls2 := [some (.inr (.inr 100)), none, some (.inl v3), some (.inl (wr (x3 + 1)))]) dX11_count_79 rfl (by decide) rfl rfl ?_
        refine j_goto (tgt := 56) dX11_count_82 rfl ?_
        exact j_msk [true, false, true, true] (ih _ _ _)
set_option maxRecDepth 100000 in
set_option maxHeartbeats 4000000 in
theorem mX11_count (l : Launch) (D : va_G) (ad : Nat → Nat) (cA : Nat → ClassId) (a1 : Int) (s0 : Mem) : MCi l D ad cA yX11_count cX11_count 4 (some .int) rmX11_count [.inr (.inr 100), .inl a1] s0 (fX11_count a1 s0) := by
  refine MCi_ofE (own := RX11) (ls := [some (.inr (.inr 100)), some (.inl a1), none, none]) 2 (by decide +kernel) rfl rfl (fun _ => Nat.le_of_ble_eq_true rfl) (fun K hq => ?_)
  unfold fX11_count
  refine j_iconst dX11_count_0 (inr_d rfl) ?_
  refine j_istore_nE (ls2 := [some (.inr (.inr 100)), some (.inl a1), some (.inl 0), none]) dX11_count_1 rfl (by decide) rfl rfl ?_
  refine j_iload_n dX11_count_2 rfl rfl ?_
  refine j_if (fun hc0 => ?_) (fun hc0 => ?_)
  · refine j_tsIn (tgt := 44) 0 hc0 dX11_count_3 (by decide) (by decide) rfl rfl ?_
    refine j_aload_n dX11_count_44 rfl rfl ?_
    refine j_getI fl_RX11_156 sh_100 rfl dX11_count_45 ?_
    exact j_iret hq dX11_count_48
  refine j_if (fun hc1 => ?_) (fun hc1 => ?_)
  · refine j_tsIn (tgt := 49) 1 hc1 dX11_count_3 (by decide) (by decide) rfl rfl ?_
    refine j_aload_n dX11_count_49 rfl rfl ?_
    refine j_getI fl_RX11_232 sh_100 rfl dX11_count_50 ?_
    exact j_iret hq dX11_count_53
  refine j_if (fun hc2 => ?_) (fun hc2 => ?_)
  · refine j_tsIn (tgt := 54) 2 hc2 dX11_count_3 (by decide) (by decide) rfl rfl ?_
    refine j_iconst dX11_count_54 (inr_d rfl) ?_
    refine j_istore_nE (ls2 := [some (.inr (.inr 100)), some (.inl a1), some (.inl 0), some (.inl 0)]) dX11_count_55 rfl (by decide) rfl rfl ?_
    refine j_msk [true, false, true, true] (jLX11_count_56 hq _ (fun y5 s4 => ?_) _ _ _ _)
    refine j_iload_n dX11_count_85 rfl rfl ?_
    exact j_iret hq dX11_count_86
  refine j_if (fun hc3 => ?_) (fun hc3 => ?_)
  · refine j_tsIn (tgt := 87) 3 hc3 dX11_count_3 (by decide) (by decide) rfl rfl ?_
    refine j_aload_n dX11_count_87 rfl rfl ?_
    refine j_getI fl_RX11_248 sh_100 rfl dX11_count_88 ?_
    exact j_iret hq dX11_count_91
  refine j_if (fun hc4 => ?_) (fun hc4 => ?_)
  · refine j_tsIn (tgt := 92) 4 hc4 dX11_count_3 (by decide) (by decide) rfl rfl ?_
    refine j_aload_n dX11_count_92 rfl rfl ?_
    refine j_callVi (mX11_openMany (kl K) (kD K) (kad K) (kcA K) s0) cw_RX11_242 sh_100 rfl ⟨rfl, rfl, by decide, by decide⟩ rfl rfl (Nat.le_of_ble_eq_true rfl) dX11_count_93 (fun r6 s7 => ?_)
    exact j_iret hq dX11_count_96
  refine j_if (fun hc5 => ?_) (fun hc5 => ?_)
  · refine j_tsIn (tgt := 97) 5 hc5 dX11_count_3 (by decide) (by decide) rfl rfl ?_
    refine j_aload_n dX11_count_97 rfl rfl ?_
    refine j_getI fl_RX11_273 sh_100 rfl dX11_count_98 ?_
    exact j_iret hq dX11_count_101
  refine j_if (fun hc6 => ?_) (fun hc6 => ?_)
  · refine j_tsIn (tgt := 102) 6 hc6 dX11_count_3 (by decide) (by decide) rfl rfl ?_
    refine j_aload_n dX11_count_102 rfl rfl ?_
    refine j_getI fl_RX11_245 sh_100 rfl dX11_count_103 ?_
    exact j_iret hq dX11_count_106
  refine j_tsOut (tgt := 107) dX11_count_3 (by omega) rfl ?_
  refine j_iconst dX11_count_107 (inr_d rfl) ?_
  exact j_iret hq dX11_count_108
