abbrev rmX11_explains : Room := { frames := 1, cells := 0, slots := 0, locals := 20 }
theorem dX11_explains_0 : decode cX11_explains 0 = .ok (.iconst 0, 1) := by decide +kernel
theorem dX11_explains_1 : decode cX11_explains 1 = .ok (.istore_n 2, 1) := by decide +kernel
theorem dX11_explains_2 : decode cX11_explains 2 = .ok (.bipush (-4), 2) := by decide +kernel
theorem dX11_explains_4 : decode cX11_explains 4 = .ok (.istore_n 3, 1) := by decide +kernel
theorem dX11_explains_5 : decode cX11_explains 5 = .ok (.iconst 0, 1) := by decide +kernel
theorem dX11_explains_6 : decode cX11_explains 6 = .ok (.istore 4, 2) := by decide +kernel
theorem dX11_explains_8 : decode cX11_explains 8 = .ok (.iload_n 1, 1) := by decide +kernel
theorem dX11_explains_9 : decode cX11_explains 9 = .ok (.sipush 1500, 3) := by decide +kernel
theorem dX11_explains_12 : decode cX11_explains 12 = .ok (.if_icmp .le 25, 3) := by decide +kernel
theorem dX11_explains_15 : decode cX11_explains 15 = .ok (.iload_n 1, 1) := by decide +kernel
theorem dX11_explains_16 : decode cX11_explains 16 = .ok (.sipush 1501, 3) := by decide +kernel
theorem dX11_explains_19 : decode cX11_explains 19 = .ok (.isub, 1) := by decide +kernel
theorem dX11_explains_20 : decode cX11_explains 20 = .ok (.iconst 5, 1) := by decide +kernel
theorem dX11_explains_21 : decode cX11_explains 21 = .ok (.idiv, 1) := by decide +kernel
theorem dX11_explains_22 : decode cX11_explains 22 = .ok (.istore_n 2, 1) := by decide +kernel
theorem dX11_explains_23 : decode cX11_explains 23 = .ok (.iload_n 1, 1) := by decide +kernel
theorem dX11_explains_24 : decode cX11_explains 24 = .ok (.sipush 1501, 3) := by decide +kernel
theorem dX11_explains_27 : decode cX11_explains 27 = .ok (.isub, 1) := by decide +kernel
theorem dX11_explains_28 : decode cX11_explains 28 = .ok (.iconst 5, 1) := by decide +kernel
theorem dX11_explains_29 : decode cX11_explains 29 = .ok (.irem, 1) := by decide +kernel
theorem dX11_explains_30 : decode cX11_explains 30 = .ok (.iconst 1, 1) := by decide +kernel
theorem dX11_explains_31 : decode cX11_explains 31 = .ok (.iadd, 1) := by decide +kernel
theorem dX11_explains_32 : decode cX11_explains 32 = .ok (.istore 4, 2) := by decide +kernel
theorem dX11_explains_34 : decode cX11_explains 34 = .ok (.goto 31, 3) := by decide +kernel
theorem dX11_explains_37 : decode cX11_explains 37 = .ok (.iload_n 1, 1) := by decide +kernel
theorem dX11_explains_38 : decode cX11_explains 38 = .ok (.ifCond .le 27, 3) := by decide +kernel
theorem dX11_explains_41 : decode cX11_explains 41 = .ok (.iload_n 1, 1) := by decide +kernel
theorem dX11_explains_42 : decode cX11_explains 42 = .ok (.iconst 1, 1) := by decide +kernel
theorem dX11_explains_43 : decode cX11_explains 43 = .ok (.isub, 1) := by decide +kernel
theorem dX11_explains_44 : decode cX11_explains 44 = .ok (.bipush 15, 2) := by decide +kernel
theorem dX11_explains_46 : decode cX11_explains 46 = .ok (.idiv, 1) := by decide +kernel
theorem dX11_explains_47 : decode cX11_explains 47 = .ok (.istore_n 2, 1) := by decide +kernel
theorem dX11_explains_48 : decode cX11_explains 48 = .ok (.iload_n 1, 1) := by decide +kernel
theorem dX11_explains_49 : decode cX11_explains 49 = .ok (.iconst 1, 1) := by decide +kernel
theorem dX11_explains_50 : decode cX11_explains 50 = .ok (.isub, 1) := by decide +kernel
theorem dX11_explains_51 : decode cX11_explains 51 = .ok (.iconst 5, 1) := by decide +kernel
theorem dX11_explains_52 : decode cX11_explains 52 = .ok (.idiv, 1) := by decide +kernel
theorem dX11_explains_53 : decode cX11_explains 53 = .ok (.iconst 3, 1) := by decide +kernel
theorem dX11_explains_54 : decode cX11_explains 54 = .ok (.irem, 1) := by decide +kernel
theorem dX11_explains_55 : decode cX11_explains 55 = .ok (.istore_n 3, 1) := by decide +kernel
theorem dX11_explains_56 : decode cX11_explains 56 = .ok (.iload_n 1, 1) := by decide +kernel
theorem dX11_explains_57 : decode cX11_explains 57 = .ok (.iconst 1, 1) := by decide +kernel
theorem dX11_explains_58 : decode cX11_explains 58 = .ok (.isub, 1) := by decide +kernel
theorem dX11_explains_59 : decode cX11_explains 59 = .ok (.iconst 5, 1) := by decide +kernel
theorem dX11_explains_60 : decode cX11_explains 60 = .ok (.irem, 1) := by decide +kernel
theorem dX11_explains_61 : decode cX11_explains 61 = .ok (.iconst 1, 1) := by decide +kernel
theorem dX11_explains_62 : decode cX11_explains 62 = .ok (.iadd, 1) := by decide +kernel
theorem dX11_explains_63 : decode cX11_explains 63 = .ok (.istore 4, 2) := by decide +kernel
theorem dX11_explains_65 : decode cX11_explains 65 = .ok (.iconst 1, 1) := by decide +kernel
theorem dX11_explains_66 : decode cX11_explains 66 = .ok (.istore 5, 2) := by decide +kernel
theorem dX11_explains_68 : decode cX11_explains 68 = .ok (.iconst 0, 1) := by decide +kernel
theorem dX11_explains_69 : decode cX11_explains 69 = .ok (.istore 6, 2) := by decide +kernel
theorem dX11_explains_71 : decode cX11_explains 71 = .ok (.iload 6, 2) := by decide +kernel
theorem dX11_explains_73 : decode cX11_explains 73 = .ok (.aload_n 0, 1) := by decide +kernel
theorem dX11_explains_74 : decode cX11_explains 74 = .ok (.getfield 232, 3) := by decide +kernel
theorem dX11_explains_77 : decode cX11_explains 77 = .ok (.if_icmp .ge 90, 3) := by decide +kernel
theorem dX11_explains_80 : decode cX11_explains 80 = .ok (.aload_n 0, 1) := by decide +kernel
theorem dX11_explains_81 : decode cX11_explains 81 = .ok (.getfield 101, 3) := by decide +kernel
theorem dX11_explains_84 : decode cX11_explains 84 = .ok (.iload 6, 2) := by decide +kernel
theorem dX11_explains_86 : decode cX11_explains 86 = .ok (.iaload, 1) := by decide +kernel
theorem dX11_explains_87 : decode cX11_explains 87 = .ok (.iload_n 2, 1) := by decide +kernel
theorem dX11_explains_88 : decode cX11_explains 88 = .ok (.if_icmp .lt 26, 3) := by decide +kernel
theorem dX11_explains_91 : decode cX11_explains 91 = .ok (.iload_n 3, 1) := by decide +kernel
theorem dX11_explains_92 : decode cX11_explains 92 = .ok (.bipush (-4), 2) := by decide +kernel
theorem dX11_explains_94 : decode cX11_explains 94 = .ok (.if_icmp .eq 14, 3) := by decide +kernel
theorem dX11_explains_97 : decode cX11_explains 97 = .ok (.iload_n 3, 1) := by decide +kernel
theorem dX11_explains_98 : decode cX11_explains 98 = .ok (.aload_n 0, 1) := by decide +kernel
theorem dX11_explains_99 : decode cX11_explains 99 = .ok (.getfield 104, 3) := by decide +kernel
theorem dX11_explains_102 : decode cX11_explains 102 = .ok (.iload 6, 2) := by decide +kernel
theorem dX11_explains_104 : decode cX11_explains 104 = .ok (.iaload, 1) := by decide +kernel
theorem dX11_explains_105 : decode cX11_explains 105 = .ok (.if_icmp .ne 9, 3) := by decide +kernel
theorem dX11_explains_108 : decode cX11_explains 108 = .ok (.iload 4, 2) := by decide +kernel
theorem dX11_explains_110 : decode cX11_explains 110 = .ok (.ineg, 1) := by decide +kernel
theorem dX11_explains_111 : decode cX11_explains 111 = .ok (.goto 4, 3) := by decide +kernel
theorem dX11_explains_114 : decode cX11_explains 114 = .ok (.iconst 0, 1) := by decide +kernel
theorem dX11_explains_115 : decode cX11_explains 115 = .ok (.istore 7, 2) := by decide +kernel
theorem dX11_explains_117 : decode cX11_explains 117 = .ok (.iload 5, 2) := by decide +kernel
theorem dX11_explains_119 : decode cX11_explains 119 = .ok (.ifCond .eq 39, 3) := by decide +kernel
theorem dX11_explains_122 : decode cX11_explains 122 = .ok (.aload_n 0, 1) := by decide +kernel
theorem dX11_explains_123 : decode cX11_explains 123 = .ok (.getfield 107, 3) := by decide +kernel
theorem dX11_explains_126 : decode cX11_explains 126 = .ok (.iload 6, 2) := by decide +kernel
theorem dX11_explains_128 : decode cX11_explains 128 = .ok (.iaload, 1) := by decide +kernel
theorem dX11_explains_129 : decode cX11_explains 129 = .ok (.bipush 100, 2) := by decide +kernel
theorem dX11_explains_131 : decode cX11_explains 131 = .ok (.if_icmp .eq 23, 3) := by decide +kernel
theorem dX11_explains_134 : decode cX11_explains 134 = .ok (.aload_n 0, 1) := by decide +kernel
theorem dX11_explains_135 : decode cX11_explains 135 = .ok (.getfield 107, 3) := by decide +kernel
theorem dX11_explains_138 : decode cX11_explains 138 = .ok (.iload 6, 2) := by decide +kernel
theorem dX11_explains_140 : decode cX11_explains 140 = .ok (.iaload, 1) := by decide +kernel
theorem dX11_explains_141 : decode cX11_explains 141 = .ok (.iload 7, 2) := by decide +kernel
theorem dX11_explains_143 : decode cX11_explains 143 = .ok (.isub, 1) := by decide +kernel
theorem dX11_explains_144 : decode cX11_explains 144 = .ok (.invokestatic 225, 3) := by decide +kernel
theorem dX11_explains_147 : decode cX11_explains 147 = .ok (.aload_n 0, 1) := by decide +kernel
theorem dX11_explains_148 : decode cX11_explains 148 = .ok (.getfield 129, 3) := by decide +kernel
theorem dX11_explains_151 : decode cX11_explains 151 = .ok (.if_icmp .gt 7, 3) := by decide +kernel
theorem dX11_explains_154 : decode cX11_explains 154 = .ok (.iconst 1, 1) := by decide +kernel
theorem dX11_explains_155 : decode cX11_explains 155 = .ok (.goto 4, 3) := by decide +kernel
theorem dX11_explains_158 : decode cX11_explains 158 = .ok (.iconst 0, 1) := by decide +kernel
theorem dX11_explains_159 : decode cX11_explains 159 = .ok (.istore 5, 2) := by decide +kernel
theorem dX11_explains_161 : decode cX11_explains 161 = .ok (.iinc 6 1, 3) := by decide +kernel
theorem dX11_explains_164 : decode cX11_explains 164 = .ok (.goto (-93), 3) := by decide +kernel
theorem dX11_explains_167 : decode cX11_explains 167 = .ok (.iload 5, 2) := by decide +kernel
theorem dX11_explains_169 : decode cX11_explains 169 = .ok (.ireturn, 1) := by decide +kernel
def LX11_explains_71 (c2 : Int) (c3 : Int) (c4 : Int) (k167 : Int → Mem → Option Res) : Nat → Int → Int → Mem → Option Res
  | 0 => fun _ _ _ => none
  | n + 1 => fun x5 x6 s => (if s 100 38 ≤ x6 then
 k167 x5 s
 else
 rd (s 128) x6 20 (fun v1 =>
 jn (fun (u2 : Int) (s3 : Mem) =>
 (if x5 = 0 then
 LX11_explains_71 c2 c3 c4 k167 n 0 (wr (x6 + 1)) s3
 else
 rd (s3 130) x6 20 (fun v4 =>
 (if v4 = 100 then
 LX11_explains_71 c2 c3 c4 k167 n 1 (wr (x6 + 1)) s3
 else
 rd (s3 130) x6 20 (fun v5 =>
 bnd (fX11_size (wr (v5 - u2)) s3) (fun r6 s7 =>
 (if s7 100 7 < r6 then
 LX11_explains_71 c2 c3 c4 k167 n 0 (wr (x6 + 1)) s7
 else
 LX11_explains_71 c2 c3 c4 k167 n 1 (wr (x6 + 1)) s7))))))) (fun k115 =>
 (if v1 < c2 then
 k115 0 s
 else
 (if c3 = (-4) then
 k115 (wr (-c4)) s
 else
 rd (s 129) x6 20 (fun v8 =>
 (if c3 ≠ v8 then
 k115 0 s
 else
 k115 (wr (-c4)) s)))))))
def fX11_explains (a1 : Int) (s0 : Mem) : Option Res :=
 (if a1 ≤ 1500 then
 (if a1 ≤ 0 then
 LX11_explains_71 0 (-4) 0 (fun y10 s9 =>
 zr y10 s9) FU 1 0 s0
 else
 lt (Int.tdiv (wr (a1 - 1)) 15) (fun v11 =>
 lt (Int.tmod (Int.tdiv (wr (a1 - 1)) 5) 3) (fun v12 =>
 lt (wr ((Int.tmod (wr (a1 - 1)) 5) + 1)) (fun v13 =>
 LX11_explains_71 v11 v12 v13 (fun y15 s14 =>
 zr y15 s14) FU 1 0 s0))))
 else
 lt (Int.tdiv (wr (a1 - 1501)) 5) (fun v16 =>
 lt (wr ((Int.tmod (wr (a1 - 1501)) 5) + 1)) (fun v17 =>
 LX11_explains_71 v16 (-4) v17 (fun y19 s18 =>
 zr y19 s18) FU 1 0 s0)))
set_option maxRecDepth 100000 in
set_option maxHeartbeats 4000000 in
theorem jLX11_explains_71 {K : KT} (hq : KI K (some .boolean)) (c2 : Int) (c3 : Int) (c4 : Int) (k167 : Int → Mem → Option Res) (hk167 : ∀ (y5 : Int) (s : Mem), J K rmX11_explains cX11_explains RX11 8 167 [none, none, none, none, none, some (.inl y5), none, none] [] s (k167 y5 s)) : ∀ (n : Nat) (x5 : Int) (x6 : Int) (s : Mem), J K rmX11_explains cX11_explains RX11 8 71 [some (.inr (.inr 100)), none, some (.inl c2), some (.inl c3), some (.inl c4), some (.inl x5), some (.inl x6), none] [] s (LX11_explains_71 c2 c3 c4 k167 n x5 x6 s) := by
  intro n
  induction n with
  | zero => intros; exact J_none
  | succ n ih =>
    intro x5 x6 s
    show J K _ _ _ _ _ _ _ _ (LX11_explains_71 c2 c3 c4 k167 (n + 1) x5 x6 s)
    simp only [LX11_explains_71]
    refine j_iload dX11_explains_71 rfl ?_
    refine j_aload_n dX11_explains_73 rfl rfl ?_
    refine j_getI fl_RX11_232 sh_100 rfl dX11_explains_74 ?_
    refine j_icmp_ge (tgt := 167) dX11_explains_77 rfl ?_ ?_
    · exact j_msk [false, false, false, false, false, true, false, false] (hk167 _ _)
    · refine j_aload_n dX11_explains_80 rfl rfl ?_
      refine j_getR fl_RX11_101 sh_100 rfl dX11_explains_81 ?_
      refine j_iload dX11_explains_84 rfl ?_
      refine j_iald sh_128 dX11_explains_86 (fun v1 => ?_)
      refine j_iload_n dX11_explains_87 rfl rfl ?_
      refine j_jn (fun k115 => ∀ (u2 : Int) (s3 : Mem), J K rmX11_explains cX11_explains RX11 8 115 [some (.inr (.inr 100)), none, some (.inl c2), some (.inl c3), some (.inl c4), some (.inl x5), some (.inl x6), none] [.inl u2] s3 (k115 u2 s3)) (fun u2 s3 => ?_) (fun k115 hk115 => ?_)
      · refine j_istoreE (ls2 := [some (.inr (.inr 100)), none, some (.inl c2), some (.inl c3), some (.inl c4), some (.inl x5), some (.inl x6), some (.inl u2)]) dX11_explains_115 (by decide) rfl rfl ?_
        refine j_iload dX11_explains_117 rfl ?_
        refine j_if_eq (tgt := 158) dX11_explains_119 rfl ?_ ?_
        · refine j_iconst dX11_explains_158 (inr_d rfl) ?_
          refine j_istoreE (ls2 := [some (.inr (.inr 100)), none, some (.inl c2), some (.inl c3), some (.inl c4), some (.inl 0), some (.inl x6), some (.inl u2)]) dX11_explains_159 (by decide) rfl rfl ?_
          refine j_iincE (ls2 := [some (.inr (.inr 100)), none, some (.inl c2), some (.inl c3), some (.inl c4), some (.inl 0), some (.inl (wr (x6 + 1))), some (.inl u2)]) dX11_explains_161 rfl (by decide) rfl rfl ?_
          refine j_goto (tgt := 71) dX11_explains_164 rfl ?_
          exact j_msk [true, false, true, true, true, true, true, false] (ih _ _ _)
        · refine j_aload_n dX11_explains_122 rfl rfl ?_
          refine j_getR fl_RX11_107 sh_100 rfl dX11_explains_123 ?_
          refine j_iload dX11_explains_126 rfl ?_
          refine j_iald sh_130 dX11_explains_128 (fun v4 => ?_)
          refine j_bipush (v := 100) dX11_explains_129 (by decide +kernel) (inr_d rfl) ?_
          refine j_icmp_eq (tgt := 154) dX11_explains_131 rfl ?_ ?_
          · refine j_iconst dX11_explains_154 (inr_d rfl) ?_
            refine j_goto (tgt := 159) dX11_explains_155 rfl ?_
            refine j_istoreE (ls2 := [some (.inr (.inr 100)), none, some (.inl c2), some (.inl c3), some (.inl c4), some (.inl 1), some (.inl x6), some (.inl u2)]) dX11_explains_159 (by decide) rfl rfl ?_
            refine j_iincE (ls2 := [some (.inr (.inr 100)), none, some (.inl c2), some (.inl c3), some (.inl c4), some (.inl 1), some (.inl (wr (x6 + 1))), some (.inl u2)]) dX11_explains_161 rfl (by decide) rfl rfl ?_
            refine j_goto (tgt := 71) dX11_explains_164 rfl ?_
            exact j_msk [true, false, true, true, true, true, true, false] (ih _ _ _)
          · refine j_aload_n dX11_explains_134 rfl rfl ?_
            refine j_getR fl_RX11_107 sh_100 rfl dX11_explains_135 ?_
            refine j_iload dX11_explains_138 rfl ?_
            refine j_iald sh_130 dX11_explains_140 (fun v5 => ?_)
            refine j_iload dX11_explains_141 rfl ?_
            refine j_isub dX11_explains_143 ?_
            refine j_callSi (mX11_size (kl K) (kD K) (kad K) (kcA K) (wr (v5 - u2)) s3) cw_RX11_225 ⟨rfl, rfl, by decide, by decide⟩ rfl rfl (Nat.le_of_ble_eq_true rfl) dX11_explains_144 (fun r6 s7 => ?_)
            refine j_aload_n dX11_explains_147 rfl rfl ?_
            refine j_getI fl_RX11_129 sh_100 rfl dX11_explains_148 ?_
            refine j_icmp_gt (tgt := 158) dX11_explains_151 rfl ?_ ?_
            · refine j_iconst dX11_explains_158 (inr_d rfl) ?_
              refine j_istoreE (ls2 := [some (.inr (.inr 100)), none, some (.inl c2), some (.inl c3), some (.inl c4), some (.inl 0), some (.inl x6), some (.inl u2)]) dX11_explains_159 (by decide) rfl rfl ?_
              refine j_iincE (ls2 := [some (.inr (.inr 100)), none, some (.inl c2), some (.inl c3), some (.inl c4), some (.inl 0), some (.inl (wr (x6 + 1))), some (.inl u2)]) dX11_explains_161 rfl (by decide) rfl rfl ?_
              refine j_goto (tgt := 71) dX11_explains_164 rfl ?_
              exact j_msk [true, false, true, true, true, true, true, false] (ih _ _ _)
            · refine j_iconst dX11_explains_154 (inr_d rfl) ?_
              refine j_goto (tgt := 159) dX11_explains_155 rfl ?_
              refine j_istoreE (ls2 := [some (.inr (.inr 100)), none, some (.inl c2), some (.inl c3), some (.inl c4), some (.inl 1), some (.inl x6), some (.inl u2)]) dX11_explains_159 (by decide) rfl rfl ?_
              refine j_iincE (ls2 := [some (.inr (.inr 100)), none, some (.inl c2), some (.inl c3), some (.inl c4), some (.inl 1), some (.inl (wr (x6 + 1))), some (.inl u2)]) dX11_explains_161 rfl (by decide) rfl rfl ?_
              refine j_goto (tgt := 71) dX11_explains_164 rfl ?_
              exact j_msk [true, false, true, true, true, true, true, false] (ih _ _ _)
      refine j_icmp_lt (tgt := 114) dX11_explains_88 rfl ?_ ?_
      · refine j_iconst dX11_explains_114 (inr_d rfl) ?_
        exact j_msk [true, false, true, true, true, true, true, false] (hk115 _ _)
      · refine j_iload_n dX11_explains_91 rfl rfl ?_
        refine j_bipush (v := (-4)) dX11_explains_92 (by decide +kernel) (inr_d rfl) ?_
        refine j_icmp_eq (tgt := 108) dX11_explains_94 rfl ?_ ?_
        · refine j_iload dX11_explains_108 rfl ?_
          refine j_ineg dX11_explains_110 ?_
          refine j_goto (tgt := 115) dX11_explains_111 rfl ?_
          exact j_msk [true, false, true, true, true, true, true, false] (hk115 _ _)
        · refine j_iload_n dX11_explains_97 rfl rfl ?_
          refine j_aload_n dX11_explains_98 rfl rfl ?_
          refine j_getR fl_RX11_104 sh_100 rfl dX11_explains_99 ?_
          refine j_iload dX11_explains_102 rfl ?_
          refine j_iald sh_129 dX11_explains_104 (fun v8 => ?_)
          refine j_icmp_ne (tgt := 114) dX11_explains_105 rfl ?_ ?_
          · refine j_iconst dX11_explains_114 (inr_d rfl) ?_
            exact j_msk [true, false, true, true, true, true, true, false] (hk115 _ _)
          · refine j_iload dX11_explains_108 rfl ?_
            refine j_ineg dX11_explains_110 ?_
            refine j_goto (tgt := 115) dX11_explains_111 rfl ?_
            exact j_msk [true, false, true, true, true, true, true, false] (hk115 _ _)
set_option maxRecDepth 100000 in
set_option maxHeartbeats 4000000 in
theorem mX11_explains (l : Launch) (D : va_G) (ad : Nat → Nat) (cA : Nat → ClassId) (a1 : Int) (s0 : Mem) : MCi l D ad cA yX11_explains cX11_explains 8 (some .boolean) rmX11_explains [.inr (.inr 100), .inl a1] s0 (fX11_explains a1 s0) := by
  refine MCi_ofE (own := RX11) (ls := [some (.inr (.inr 100)), some (.inl a1), none, none, none, none, none, none]) 6 (by decide +kernel) rfl rfl (fun _ => Nat.le_of_ble_eq_true rfl) (fun K hq => ?_)
  unfold fX11_explains
  refine j_iconst dX11_explains_0 (inr_d rfl) ?_
  refine j_istore_nE (ls2 := [some (.inr (.inr 100)), some (.inl a1), some (.inl 0), none, none, none, none, none]) dX11_explains_1 rfl (by decide) rfl rfl ?_
  refine j_bipush (v := (-4)) dX11_explains_2 (by decide +kernel) (inr_d rfl) ?_
  refine j_istore_nE (ls2 := [some (.inr (.inr 100)), some (.inl a1), some (.inl 0), some (.inl (-4)), none, none, none, none]) dX11_explains_4 rfl (by decide) rfl rfl ?_
  refine j_iconst dX11_explains_5 (inr_d rfl) ?_
  refine j_istoreE (ls2 := [some (.inr (.inr 100)), some (.inl a1), some (.inl 0), some (.inl (-4)), some (.inl 0), none, none, none]) dX11_explains_6 (by decide) rfl rfl ?_
  refine j_iload_n dX11_explains_8 rfl rfl ?_
  refine j_sipush (v := 1500) dX11_explains_9 (by decide +kernel) (inr_d rfl) ?_
  refine j_icmp_le (tgt := 37) dX11_explains_12 rfl ?_ ?_
  · refine j_iload_n dX11_explains_37 rfl rfl ?_
    refine j_if_le (tgt := 65) dX11_explains_38 rfl ?_ ?_
    · refine j_iconst dX11_explains_65 (inr_d rfl) ?_
      refine j_istoreE (ls2 := [some (.inr (.inr 100)), some (.inl a1), some (.inl 0), some (.inl (-4)), some (.inl 0), some (.inl 1), none, none]) dX11_explains_66 (by decide) rfl rfl ?_
      refine j_iconst dX11_explains_68 (inr_d rfl) ?_
      refine j_istoreE (ls2 := [some (.inr (.inr 100)), some (.inl a1), some (.inl 0), some (.inl (-4)), some (.inl 0), some (.inl 1), some (.inl 0), none]) dX11_explains_69 (by decide) rfl rfl ?_
      refine j_msk [true, false, true, true, true, true, true, false] (jLX11_explains_71 hq _ _ _ _ (fun y10 s9 => ?_) _ _ _ _)
      refine j_iload dX11_explains_167 rfl ?_
      exact j_zret hq dX11_explains_169
    · refine j_iload_n dX11_explains_41 rfl rfl ?_
      refine j_iconst dX11_explains_42 (inr_d rfl) ?_
      refine j_isub dX11_explains_43 ?_
      refine j_bipush (v := 15) dX11_explains_44 (by decide +kernel) (inr_d rfl) ?_
      refine j_idiv_p dX11_explains_46 (by decide) ?_
      refine j_ltv (fun v11 => ?_)
      refine j_istore_nE (ls2 := [some (.inr (.inr 100)), some (.inl a1), some (.inl v11), some (.inl (-4)), some (.inl 0), none, none, none]) dX11_explains_47 rfl (by decide) rfl rfl ?_
      refine j_iload_n dX11_explains_48 rfl rfl ?_
      refine j_iconst dX11_explains_49 (inr_d rfl) ?_
      refine j_isub dX11_explains_50 ?_
      refine j_iconst dX11_explains_51 (inr_d rfl) ?_
      refine j_idiv_p dX11_explains_52 (by decide) ?_
      refine j_iconst dX11_explains_53 (inr_d rfl) ?_
      refine j_irem_p dX11_explains_54 (by decide) ?_
      refine j_ltv (fun v12 => ?_)
      refine j_istore_nE (ls2 := [some (.inr (.inr 100)), some (.inl a1), some (.inl v11), some (.inl v12), some (.inl 0), none, none, none]) dX11_explains_55 rfl (by decide) rfl rfl ?_
      refine j_iload_n dX11_explains_56 rfl rfl ?_
      refine j_iconst dX11_explains_57 (inr_d rfl) ?_
      refine j_isub dX11_explains_58 ?_
      refine j_iconst dX11_explains_59 (inr_d rfl) ?_
      refine j_irem_p dX11_explains_60 (by decide) ?_
      refine j_iconst dX11_explains_61 (inr_d rfl) ?_
      refine j_iadd dX11_explains_62 ?_
      refine j_ltv (fun v13 => ?_)
      refine j_istoreE (ls2 := [some (.inr (.inr 100)), some (.inl a1), some (.inl v11), some (.inl v12), some (.inl v13), none, none, none]) dX11_explains_63 (by decide) rfl rfl ?_
      refine j_iconst dX11_explains_65 (inr_d rfl) ?_
      refine j_istoreE (ls2 := [some (.inr (.inr 100)), some (.inl a1), some (.inl v11), some (.inl v12), some (.inl v13), some (.inl 1), none, none]) dX11_explains_66 (by decide) rfl rfl ?_
      refine j_iconst dX11_explains_68 (inr_d rfl) ?_
      refine j_istoreE (ls2 := [some (.inr (.inr 100)), some (.inl a1), some (.inl v11), some (.inl v12), some (.inl v13), some (.inl 1), some (.inl 0), none]) dX11_explains_69 (by decide) rfl rfl ?_
      refine j_msk [true, false, true, true, true, true, true, false] (jLX11_explains_71 hq _ _ _ _ (fun y15 s14 => ?_) _ _ _ _)
      refine j_iload dX11_explains_167 rfl ?_
      exact j_zret hq dX11_explains_169
  · refine j_iload_n dX11_explains_15 rfl rfl ?_
    refine j_sipush (v := 1501) dX11_explains_16 (by decide +kernel) (inr_d rfl) ?_
    refine j_isub dX11_explains_19 ?_
    refine j_iconst dX11_explains_20 (inr_d rfl) ?_
    refine j_idiv_p dX11_explains_21 (by decide) ?_
    refine j_ltv (fun v16 => ?_)
    refine j_istore_nE (ls2 := [some (.inr (.inr 100)), some (.inl a1), some (.inl v16), some (.inl (-4)), some (.inl 0), none, none, none]) dX11_explains_22 rfl (by decide) rfl rfl ?_
    refine j_iload_n dX11_explains_23 rfl rfl ?_
    refine j_sipush (v := 1501) dX11_explains_24 (by decide +kernel) (inr_d rfl) ?_
    refine j_isub dX11_explains_27 ?_
    refine j_iconst dX11_explains_28 (inr_d rfl) ?_
    refine j_irem_p dX11_explains_29 (by decide) ?_
    refine j_iconst dX11_explains_30 (inr_d rfl) ?_
    refine j_iadd dX11_explains_31 ?_
    refine j_ltv (fun v17 => ?_)
    refine j_istoreE (ls2 := [some (.inr (.inr 100)), some (.inl a1), some (.inl v16), some (.inl (-4)), some (.inl v17), none, none, none]) dX11_explains_32 (by decide) rfl rfl ?_
    refine j_goto (tgt := 65) dX11_explains_34 rfl ?_
    refine j_iconst dX11_explains_65 (inr_d rfl) ?_
    refine j_istoreE (ls2 := [some (.inr (.inr 100)), some (.inl a1), some (.inl v16), some (.inl (-4)), some (.inl v17), some (.inl 1), none, none]) dX11_explains_66 (by decide) rfl rfl ?_
    refine j_iconst dX11_explains_68 (inr_d rfl) ?_
    refine j_istoreE (ls2 := [some (.inr (.inr 100)), some (.inl a1), some (.inl v16), some (.inl (-4)), some (.inl v17), some (.inl 1), some (.inl 0), none]) dX11_explains_69 (by decide) rfl rfl ?_
    refine j_msk [true, false, true, true, true, true, true, false] (jLX11_explains_71 hq _ _ _ _ (fun y19 s18 => ?_) _ _ _ _)
    refine j_iload dX11_explains_167 rfl ?_
    exact j_zret hq dX11_explains_169
abbrev rmX11_drift : Room := { frames := 2, cells := 0, slots := 0, locals := 47 }
theorem dX11_drift_0 : decode cX11_drift 0 = .ok (.iload_n 1, 1) := by decide +kernel
theorem dX11_drift_1 : decode cX11_drift 1 = .ok (.iconst (-1), 1) := by decide +kernel
theorem dX11_drift_2 : decode cX11_drift 2 = .ok (.if_icmp .ge 5, 3) := by decide +kernel
theorem dX11_drift_5 : decode cX11_drift 5 = .ok (.iconst (-1), 1) := by decide +kernel
theorem dX11_drift_6 : decode cX11_drift 6 = .ok (.ireturn, 1) := by decide +kernel
theorem dX11_drift_7 : decode cX11_drift 7 = .ok (.iconst 0, 1) := by decide +kernel
theorem dX11_drift_8 : decode cX11_drift 8 = .ok (.istore_n 2, 1) := by decide +kernel
theorem dX11_drift_9 : decode cX11_drift 9 = .ok (.iconst 0, 1) := by decide +kernel
theorem dX11_drift_10 : decode cX11_drift 10 = .ok (.istore_n 3, 1) := by decide +kernel
theorem dX11_drift_11 : decode cX11_drift 11 = .ok (.iload_n 3, 1) := by decide +kernel
theorem dX11_drift_12 : decode cX11_drift 12 = .ok (.sipush 2000, 3) := by decide +kernel
theorem dX11_drift_15 : decode cX11_drift 15 = .ok (.if_icmp .gt 27, 3) := by decide +kernel
theorem dX11_drift_18 : decode cX11_drift 18 = .ok (.aload_n 0, 1) := by decide +kernel
theorem dX11_drift_19 : decode cX11_drift 19 = .ok (.iload_n 3, 1) := by decide +kernel
theorem dX11_drift_20 : decode cX11_drift 20 = .ok (.invokevirtual 235, 3) := by decide +kernel
theorem dX11_drift_23 : decode cX11_drift 23 = .ok (.ifCond .eq 13, 3) := by decide +kernel
theorem dX11_drift_26 : decode cX11_drift 26 = .ok (.iload_n 2, 1) := by decide +kernel
theorem dX11_drift_27 : decode cX11_drift 27 = .ok (.iload_n 1, 1) := by decide +kernel
theorem dX11_drift_28 : decode cX11_drift 28 = .ok (.if_icmp .ne 5, 3) := by decide +kernel
theorem dX11_drift_31 : decode cX11_drift 31 = .ok (.iload_n 3, 1) := by decide +kernel
theorem dX11_drift_32 : decode cX11_drift 32 = .ok (.ireturn, 1) := by decide +kernel
theorem dX11_drift_33 : decode cX11_drift 33 = .ok (.iinc 2 1, 3) := by decide +kernel
theorem dX11_drift_36 : decode cX11_drift 36 = .ok (.iinc 3 1, 3) := by decide +kernel
theorem dX11_drift_39 : decode cX11_drift 39 = .ok (.goto (-28), 3) := by decide +kernel
theorem dX11_drift_42 : decode cX11_drift 42 = .ok (.iload_n 1, 1) := by decide +kernel
theorem dX11_drift_43 : decode cX11_drift 43 = .ok (.ifCond .ge 7, 3) := by decide +kernel
theorem dX11_drift_46 : decode cX11_drift 46 = .ok (.iload_n 2, 1) := by decide +kernel
theorem dX11_drift_47 : decode cX11_drift 47 = .ok (.goto 5, 3) := by decide +kernel
theorem dX11_drift_50 : decode cX11_drift 50 = .ok (.bipush (-4), 2) := by decide +kernel
theorem dX11_drift_52 : decode cX11_drift 52 = .ok (.ireturn, 1) := by decide +kernel
def LX11_drift_11 (c1 : Int) (k42 : Int → Mem → Option Res) : Nat → Int → Int → Mem → Option Res
  | 0 => fun _ _ _ => none
  | n + 1 => fun x2 x3 s => (if 2000 < x3 then
 k42 x2 s
 else
 bnd (fX11_explains x3 s) (fun r1 s2 =>
 (if r1 = 0 then
 LX11_drift_11 c1 k42 n x2 (wr (x3 + 1)) s2
 else
 (if x2 ≠ c1 then
 LX11_drift_11 c1 k42 n (wr (x2 + 1)) (wr (x3 + 1)) s2
 else
 some (x3, s2)))))
def fX11_drift (a1 : Int) (s0 : Mem) : Option Res :=
 (if (-1) ≤ a1 then
 LX11_drift_11 a1 (fun y4 s3 =>
 (if 0 ≤ a1 then
 some ((-4), s3)
 else
 some (y4, s3))) FU 0 0 s0
 else
 some ((-1), s0))
set_option maxRecDepth 100000 in
set_option maxHeartbeats 4000000 in
theorem jLX11_drift_11 {K : KT} (hq : KI K (some .int)) (c1 : Int) (k42 : Int → Mem → Option Res) (hk42 : ∀ (y2 : Int) (s : Mem), J K rmX11_drift cX11_drift RX11 4 42 [none, some (.inl c1), some (.inl y2), none] [] s (k42 y2 s)) : ∀ (n : Nat) (x2 : Int) (x3 : Int) (s : Mem), J K rmX11_drift cX11_drift RX11 4 11 [some (.inr (.inr 100)), some (.inl c1), some (.inl x2), some (.inl x3)] [] s (LX11_drift_11 c1 k42 n x2 x3 s) := by
  intro n
  induction n with
  | zero => intros; exact J_none
  | succ n ih =>
    intro x2 x3 s
    show J K _ _ _ _ _ _ _ _ (LX11_drift_11 c1 k42 (n + 1) x2 x3 s)
    simp only [LX11_drift_11]
    refine j_iload_n dX11_drift_11 rfl rfl ?_
    refine j_sipush (v := 2000) dX11_drift_12 (by decide +kernel) (inr_d rfl) ?_
    refine j_icmp_gt (tgt := 42) dX11_drift_15 rfl ?_ ?_
    · exact j_msk [false, true, true, false] (hk42 _ _)
    · refine j_aload_n dX11_drift_18 rfl rfl ?_
      refine j_iload_n dX11_drift_19 rfl rfl ?_
      refine j_callVi (mX11_explains (kl K) (kD K) (kad K) (kcA K) x3 s) cw_RX11_235 sh_100 rfl ⟨rfl, rfl, by decide, by decide⟩ rfl rfl (Nat.le_of_ble_eq_true rfl) dX11_drift_20 (fun r1 s2 => ?_)
      refine j_if_eq (tgt := 36) dX11_drift_23 rfl ?_ ?_
      · refine j_iincE (ls2 := [some (.inr (.inr 100)), some (.inl c1), some (.inl x2), some (.inl (wr (x3 + 1)))]) dX11_drift_36 rfl (by decide) rfl rfl ?_
        refine j_goto (tgt := 11) dX11_drift_39 rfl ?_
        exact j_msk [true, true, true, true] (ih _ _ _)
      · refine j_iload_n dX11_drift_26 rfl rfl ?_
        refine j_iload_n dX11_drift_27 rfl rfl ?_
        refine j_icmp_ne (tgt := 33) dX11_drift_28 rfl ?_ ?_
        · refine j_iincE (ls2 := [some (.inr (.inr 100)), some (.inl c1), some (.inl (wr (x2 + 1))), some (.inl x3)]) dX11_drift_33 rfl (by decide) rfl rfl ?_
          refine j_iincE (ls2 := [some (.inr (.inr 100)), some (.inl c1), some (.inl (wr (x2 + 1))), some (.inl (wr (x3 + 1)))]) dX11_drift_36 rfl (by decide) rfl rfl ?_
          refine j_goto (tgt := 11) dX11_drift_39 rfl ?_
          exact j_msk [true, true, true, true] (ih _ _ _)
        · refine j_iload_n dX11_drift_31 rfl rfl ?_
          exact j_iret hq dX11_drift_32
set_option maxRecDepth 100000 in
set_option maxHeartbeats 4000000 in
theorem mX11_drift (l : Launch) (D : va_G) (ad : Nat → Nat) (cA : Nat → ClassId) (a1 : Int) (s0 : Mem) : MCi l D ad cA yX11_drift cX11_drift 4 (some .int) rmX11_drift [.inr (.inr 100), .inl a1] s0 (fX11_drift a1 s0) := by
  refine MCi_ofE (own := RX11) (ls := [some (.inr (.inr 100)), some (.inl a1), none, none]) 2 (by decide +kernel) rfl rfl (fun _ => Nat.le_of_ble_eq_true rfl) (fun K hq => ?_)
  unfold fX11_drift
  refine j_iload_n dX11_drift_0 rfl rfl ?_
  refine j_iconst dX11_drift_1 (inr_d rfl) ?_
  refine j_icmp_ge (tgt := 7) dX11_drift_2 rfl ?_ ?_
  · refine j_iconst dX11_drift_7 (inr_d rfl) ?_
    refine j_istore_nE (ls2 := [some (.inr (.inr 100)), some (.inl a1), some (.inl 0), none]) dX11_drift_8 rfl (by decide) rfl rfl ?_
    refine j_iconst dX11_drift_9 (inr_d rfl) ?_
    refine j_istore_nE (ls2 := [some (.inr (.inr 100)), some (.inl a1), some (.inl 0), some (.inl 0)]) dX11_drift_10 rfl (by decide) rfl rfl ?_
    refine j_msk [true, true, true, true] (jLX11_drift_11 hq _ _ (fun y4 s3 => ?_) _ _ _ _)
    refine j_iload_n dX11_drift_42 rfl rfl ?_
    refine j_if_ge (tgt := 50) dX11_drift_43 rfl ?_ ?_
    · refine j_bipush (v := (-4)) dX11_drift_50 (by decide +kernel) (inr_d rfl) ?_
      exact j_iret hq dX11_drift_52
    · refine j_iload_n dX11_drift_46 rfl rfl ?_
      refine j_goto (tgt := 52) dX11_drift_47 rfl ?_
      exact j_iret hq dX11_drift_52
  · refine j_iconst dX11_drift_5 (inr_d rfl) ?_
    exact j_iret hq dX11_drift_6
abbrev rmX11_reel : Room := { frames := 1, cells := 0, slots := 0, locals := 22 }
theorem dX11_reel_0 : decode cX11_reel 0 = .ok (.iload_n 1, 1) := by decide +kernel
theorem dX11_reel_1 : decode cX11_reel 1 = .ok (.iconst 0, 1) := by decide +kernel
theorem dX11_reel_2 : decode cX11_reel 2 = .ok (.bipush 7, 2) := by decide +kernel
theorem dX11_reel_4 : decode cX11_reel 4 = .ok (.invokestatic 125, 3) := by decide +kernel
theorem dX11_reel_7 : decode cX11_reel 7 = .ok (.ifCond .eq 34, 3) := by decide +kernel
theorem dX11_reel_10 : decode cX11_reel 10 = .ok (.iload_n 2, 1) := by decide +kernel
theorem dX11_reel_11 : decode cX11_reel 11 = .ok (.iconst 0, 1) := by decide +kernel
theorem dX11_reel_12 : decode cX11_reel 12 = .ok (.ldc 238, 2) := by decide +kernel
theorem dX11_reel_14 : decode cX11_reel 14 = .ok (.invokestatic 125, 3) := by decide +kernel
theorem dX11_reel_17 : decode cX11_reel 17 = .ok (.ifCond .eq 24, 3) := by decide +kernel
theorem dX11_reel_20 : decode cX11_reel 20 = .ok (.iload_n 3, 1) := by decide +kernel
theorem dX11_reel_21 : decode cX11_reel 21 = .ok (.iconst 1, 1) := by decide +kernel
theorem dX11_reel_22 : decode cX11_reel 22 = .ok (.sipush 2000, 3) := by decide +kernel
theorem dX11_reel_25 : decode cX11_reel 25 = .ok (.invokestatic 125, 3) := by decide +kernel
theorem dX11_reel_28 : decode cX11_reel 28 = .ok (.ifCond .eq 13, 3) := by decide +kernel
theorem dX11_reel_31 : decode cX11_reel 31 = .ok (.iload_n 2, 1) := by decide +kernel
theorem dX11_reel_32 : decode cX11_reel 32 = .ok (.iload_n 3, 1) := by decide +kernel
theorem dX11_reel_33 : decode cX11_reel 33 = .ok (.iadd, 1) := by decide +kernel
theorem dX11_reel_34 : decode cX11_reel 34 = .ok (.iconst 1, 1) := by decide +kernel
theorem dX11_reel_35 : decode cX11_reel 35 = .ok (.isub, 1) := by decide +kernel
theorem dX11_reel_36 : decode cX11_reel 36 = .ok (.ldc 238, 2) := by decide +kernel
theorem dX11_reel_38 : decode cX11_reel 38 = .ok (.if_icmp .le 5, 3) := by decide +kernel
theorem dX11_reel_41 : decode cX11_reel 41 = .ok (.iconst (-1), 1) := by decide +kernel
theorem dX11_reel_42 : decode cX11_reel 42 = .ok (.ireturn, 1) := by decide +kernel
theorem dX11_reel_43 : decode cX11_reel 43 = .ok (.aload_n 0, 1) := by decide +kernel
theorem dX11_reel_44 : decode cX11_reel 44 = .ok (.getfield 80, 3) := by decide +kernel
theorem dX11_reel_47 : decode cX11_reel 47 = .ok (.iload_n 1, 1) := by decide +kernel
theorem dX11_reel_48 : decode cX11_reel 48 = .ok (.iload_n 2, 1) := by decide +kernel
theorem dX11_reel_49 : decode cX11_reel 49 = .ok (.iastore, 1) := by decide +kernel
theorem dX11_reel_50 : decode cX11_reel 50 = .ok (.aload_n 0, 1) := by decide +kernel
theorem dX11_reel_51 : decode cX11_reel 51 = .ok (.getfield 83, 3) := by decide +kernel
theorem dX11_reel_54 : decode cX11_reel 54 = .ok (.iload_n 1, 1) := by decide +kernel
theorem dX11_reel_55 : decode cX11_reel 55 = .ok (.iload_n 3, 1) := by decide +kernel
theorem dX11_reel_56 : decode cX11_reel 56 = .ok (.iastore, 1) := by decide +kernel
theorem dX11_reel_57 : decode cX11_reel 57 = .ok (.aload_n 0, 1) := by decide +kernel
theorem dX11_reel_58 : decode cX11_reel 58 = .ok (.getfield 86, 3) := by decide +kernel
theorem dX11_reel_61 : decode cX11_reel 61 = .ok (.iload_n 1, 1) := by decide +kernel
theorem dX11_reel_62 : decode cX11_reel 62 = .ok (.iconst 1, 1) := by decide +kernel
theorem dX11_reel_63 : decode cX11_reel 63 = .ok (.iastore, 1) := by decide +kernel
theorem dX11_reel_64 : decode cX11_reel 64 = .ok (.iconst 0, 1) := by decide +kernel
theorem dX11_reel_65 : decode cX11_reel 65 = .ok (.ireturn, 1) := by decide +kernel
def fX11_reel (a1 : Int) (a2 : Int) (a3 : Int) (s0 : Mem) : Option Res :=
 bnd (fX11_in a1 0 7 s0) (fun r1 s2 =>
 (if r1 = 0 then
 some ((-1), s2)
 else
 bnd (fX11_in a2 0 100000 s2) (fun r3 s4 =>
 (if r3 = 0 then
 some ((-1), s4)
 else
 bnd (fX11_in a3 1 2000 s4) (fun r5 s6 =>
 (if r5 = 0 then
 some ((-1), s6)
 else
 (if wr ((wr (a2 + a3)) - 1) ≤ 100000 then
 ST s6 121 a1 24 a2 (fun s7 =>
 ST s7 122 a1 24 a3 (fun s8 =>
 ST s8 123 a1 24 1 (fun s9 =>
 some (0, s9))))
 else
 some ((-1), s6))))))))
set_option maxRecDepth 100000 in
set_option maxHeartbeats 4000000 in
theorem mX11_reel (l : Launch) (D : va_G) (ad : Nat → Nat) (cA : Nat → ClassId) (a1 : Int) (a2 : Int) (a3 : Int) (s0 : Mem) : MCi l D ad cA yX11_reel cX11_reel 4 (some .int) rmX11_reel [.inr (.inr 100), .inl a1, .inl a2, .inl a3] s0 (fX11_reel a1 a2 a3 s0) := by
  refine MCi_ofE (own := RX11) (ls := [some (.inr (.inr 100)), some (.inl a1), some (.inl a2), some (.inl a3)]) 0 (by decide +kernel) rfl rfl (fun _ => Nat.le_of_ble_eq_true rfl) (fun K hq => ?_)
  unfold fX11_reel
  refine j_iload_n dX11_reel_0 rfl rfl ?_
  refine j_iconst dX11_reel_1 (inr_d rfl) ?_
  refine j_bipush (v := 7) dX11_reel_2 (by decide +kernel) (inr_d rfl) ?_
  refine j_callSi (mX11_in (kl K) (kD K) (kad K) (kcA K) a1 0 7 s0) cw_RX11_125 ⟨rfl, rfl, by decide, by decide⟩ rfl rfl (Nat.le_of_ble_eq_true rfl) dX11_reel_4 (fun r1 s2 => ?_)
  refine j_if_eq (tgt := 41) dX11_reel_7 rfl ?_ ?_
  · refine j_iconst dX11_reel_41 (inr_d rfl) ?_
    exact j_iret hq dX11_reel_42
  · refine j_iload_n dX11_reel_10 rfl rfl ?_
    refine j_iconst dX11_reel_11 (inr_d rfl) ?_
    refine j_ldc (v := 100000) dX11_reel_12 cst_RX11_238 (inr_d rfl) ?_
    refine j_callSi (mX11_in (kl K) (kD K) (kad K) (kcA K) a2 0 100000 s2) cw_RX11_125 ⟨rfl, rfl, by decide, by decide⟩ rfl rfl (Nat.le_of_ble_eq_true rfl) dX11_reel_14 (fun r3 s4 => ?_)
    refine j_if_eq (tgt := 41) dX11_reel_17 rfl ?_ ?_
    · refine j_iconst dX11_reel_41 (inr_d rfl) ?_
      exact j_iret hq dX11_reel_42
    · refine j_iload_n dX11_reel_20 rfl rfl ?_
      refine j_iconst dX11_reel_21 (inr_d rfl) ?_
      refine j_sipush (v := 2000) dX11_reel_22 (by decide +kernel) (inr_d rfl) ?_
      refine j_callSi (mX11_in (kl K) (kD K) (kad K) (kcA K) a3 1 2000 s4) cw_RX11_125 ⟨rfl, rfl, by decide, by decide⟩ rfl rfl (Nat.le_of_ble_eq_true rfl) dX11_reel_25 (fun r5 s6 => ?_)
      refine j_if_eq (tgt := 41) dX11_reel_28 rfl ?_ ?_
      · refine j_iconst dX11_reel_41 (inr_d rfl) ?_
        exact j_iret hq dX11_reel_42
      · refine j_iload_n dX11_reel_31 rfl rfl ?_
        refine j_iload_n dX11_reel_32 rfl rfl ?_
        refine j_iadd dX11_reel_33 ?_
        refine j_iconst dX11_reel_34 (inr_d rfl) ?_
        refine j_isub dX11_reel_35 ?_
        refine j_ldc (v := 100000) dX11_reel_36 cst_RX11_238 (inr_d rfl) ?_
        refine j_icmp_le (tgt := 43) dX11_reel_38 rfl ?_ ?_
        · refine j_aload_n dX11_reel_43 rfl rfl ?_
          refine j_getR fl_RX11_80 sh_100 rfl dX11_reel_44 ?_
          refine j_iload_n dX11_reel_47 rfl rfl ?_
          refine j_iload_n dX11_reel_48 rfl rfl ?_
          refine j_iast sh_121 dX11_reel_49 (fun s7 => ?_)
          refine j_aload_n dX11_reel_50 rfl rfl ?_
          refine j_getR fl_RX11_83 sh_100 rfl dX11_reel_51 ?_
          refine j_iload_n dX11_reel_54 rfl rfl ?_
          refine j_iload_n dX11_reel_55 rfl rfl ?_
          refine j_iast sh_122 dX11_reel_56 (fun s8 => ?_)
          refine j_aload_n dX11_reel_57 rfl rfl ?_
          refine j_getR fl_RX11_86 sh_100 rfl dX11_reel_58 ?_
          refine j_iload_n dX11_reel_61 rfl rfl ?_
          refine j_iconst dX11_reel_62 (inr_d rfl) ?_
          refine j_iast sh_123 dX11_reel_63 (fun s9 => ?_)
          refine j_iconst dX11_reel_64 (inr_d rfl) ?_
          exact j_iret hq dX11_reel_65
        · refine j_iconst dX11_reel_41 (inr_d rfl) ?_
          exact j_iret hq dX11_reel_42
abbrev rmX11_lose : Room := { frames := 1, cells := 0, slots := 0, locals := 22 }
theorem dX11_lose_0 : decode cX11_lose 0 = .ok (.iload_n 1, 1) := by decide +kernel
theorem dX11_lose_1 : decode cX11_lose 1 = .ok (.iconst 0, 1) := by decide +kernel
theorem dX11_lose_2 : decode cX11_lose 2 = .ok (.bipush 7, 2) := by decide +kernel
theorem dX11_lose_4 : decode cX11_lose 4 = .ok (.invokestatic 125, 3) := by decide +kernel
theorem dX11_lose_7 : decode cX11_lose 7 = .ok (.ifCond .ne 5, 3) := by decide +kernel
theorem dX11_lose_10 : decode cX11_lose 10 = .ok (.iconst (-1), 1) := by decide +kernel
theorem dX11_lose_11 : decode cX11_lose 11 = .ok (.ireturn, 1) := by decide +kernel
theorem dX11_lose_12 : decode cX11_lose 12 = .ok (.aload_n 0, 1) := by decide +kernel
theorem dX11_lose_13 : decode cX11_lose 13 = .ok (.getfield 86, 3) := by decide +kernel
theorem dX11_lose_16 : decode cX11_lose 16 = .ok (.iload_n 1, 1) := by decide +kernel
theorem dX11_lose_17 : decode cX11_lose 17 = .ok (.iaload, 1) := by decide +kernel
theorem dX11_lose_18 : decode cX11_lose 18 = .ok (.ifCond .ne 6, 3) := by decide +kernel
theorem dX11_lose_21 : decode cX11_lose 21 = .ok (.bipush (-2), 2) := by decide +kernel
theorem dX11_lose_23 : decode cX11_lose 23 = .ok (.ireturn, 1) := by decide +kernel
theorem dX11_lose_24 : decode cX11_lose 24 = .ok (.aload_n 0, 1) := by decide +kernel
theorem dX11_lose_25 : decode cX11_lose 25 = .ok (.getfield 86, 3) := by decide +kernel
theorem dX11_lose_28 : decode cX11_lose 28 = .ok (.iload_n 1, 1) := by decide +kernel
theorem dX11_lose_29 : decode cX11_lose 29 = .ok (.iaload, 1) := by decide +kernel
theorem dX11_lose_30 : decode cX11_lose 30 = .ok (.iconst 1, 1) := by decide +kernel
theorem dX11_lose_31 : decode cX11_lose 31 = .ok (.isub, 1) := by decide +kernel
theorem dX11_lose_32 : decode cX11_lose 32 = .ok (.istore_n 3, 1) := by decide +kernel
theorem dX11_lose_33 : decode cX11_lose 33 = .ok (.aload_n 0, 1) := by decide +kernel
theorem dX11_lose_34 : decode cX11_lose 34 = .ok (.getfield 86, 3) := by decide +kernel
theorem dX11_lose_37 : decode cX11_lose 37 = .ok (.iload_n 1, 1) := by decide +kernel
theorem dX11_lose_38 : decode cX11_lose 38 = .ok (.iload_n 2, 1) := by decide +kernel
theorem dX11_lose_39 : decode cX11_lose 39 = .ok (.ifCond .eq 7, 3) := by decide +kernel
theorem dX11_lose_42 : decode cX11_lose 42 = .ok (.iconst 2, 1) := by decide +kernel
theorem dX11_lose_43 : decode cX11_lose 43 = .ok (.goto 4, 3) := by decide +kernel
theorem dX11_lose_46 : decode cX11_lose 46 = .ok (.iconst 1, 1) := by decide +kernel
theorem dX11_lose_47 : decode cX11_lose 47 = .ok (.iastore, 1) := by decide +kernel
theorem dX11_lose_48 : decode cX11_lose 48 = .ok (.iload_n 3, 1) := by decide +kernel
theorem dX11_lose_49 : decode cX11_lose 49 = .ok (.ireturn, 1) := by decide +kernel
def fX11_lose (a1 : Int) (a2 : Int) (s0 : Mem) : Option Res :=
 bnd (fX11_in a1 0 7 s0) (fun r1 s2 =>
 (if r1 ≠ 0 then
 rd (s2 123) a1 24 (fun v3 =>
 (if v3 ≠ 0 then
 rd (s2 123) a1 24 (fun v4 =>
 lt (wr (v4 - 1)) (fun v5 =>
 jn (fun (u6 : Int) (s7 : Mem) =>
 ST s7 123 a1 24 u6 (fun s8 =>
 some (v5, s8))) (fun k47 =>
 (if a2 = 0 then
 k47 1 s2
 else
 k47 2 s2))))
 else
 some ((-2), s2)))
 else
 some ((-1), s2)))
set_option maxRecDepth 100000 in
set_option maxHeartbeats 4000000 in
theorem mX11_lose (l : Launch) (D : va_G) (ad : Nat → Nat) (cA : Nat → ClassId) (a1 : Int) (a2 : Int) (s0 : Mem) : MCi l D ad cA yX11_lose cX11_lose 4 (some .int) rmX11_lose [.inr (.inr 100), .inl a1, .inl a2] s0 (fX11_lose a1 a2 s0) := by
  refine MCi_ofE (own := RX11) (ls := [some (.inr (.inr 100)), some (.inl a1), some (.inl a2), none]) 1 (by decide +kernel) rfl rfl (fun _ => Nat.le_of_ble_eq_true rfl) (fun K hq => ?_)
  unfold fX11_lose
  refine j_iload_n dX11_lose_0 rfl rfl ?_
  refine j_iconst dX11_lose_1 (inr_d rfl) ?_
  refine j_bipush (v := 7) dX11_lose_2 (by decide +kernel) (inr_d rfl) ?_
  refine j_callSi (mX11_in (kl K) (kD K) (kad K) (kcA K) a1 0 7 s0) cw_RX11_125 ⟨rfl, rfl, by decide, by decide⟩ rfl rfl (Nat.le_of_ble_eq_true rfl) dX11_lose_4 (fun r1 s2 => ?_)
  refine j_if_ne (tgt := 12) dX11_lose_7 rfl ?_ ?_
  · refine j_aload_n dX11_lose_12 rfl rfl ?_
    refine j_getR fl_RX11_86 sh_100 rfl dX11_lose_13 ?_
    refine j_iload_n dX11_lose_16 rfl rfl ?_
    refine j_iald sh_123 dX11_lose_17 (fun v3 => ?_)
    refine j_if_ne (tgt := 24) dX11_lose_18 rfl ?_ ?_
    · refine j_aload_n dX11_lose_24 rfl rfl ?_
      refine j_getR fl_RX11_86 sh_100 rfl dX11_lose_25 ?_
      refine j_iload_n dX11_lose_28 rfl rfl ?_
      refine j_iald sh_123 dX11_lose_29 (fun v4 => ?_)
      refine j_iconst dX11_lose_30 (inr_d rfl) ?_
      refine j_isub dX11_lose_31 ?_
      refine j_ltv (fun v5 => ?_)
      refine j_istore_nE (ls2 := [some (.inr (.inr 100)), some (.inl a1), some (.inl a2), some (.inl v5)]) dX11_lose_32 rfl (by decide) rfl rfl ?_
      refine j_aload_n dX11_lose_33 rfl rfl ?_
      refine j_getR fl_RX11_86 sh_100 rfl dX11_lose_34 ?_
      refine j_iload_n dX11_lose_37 rfl rfl ?_
      refine j_iload_n dX11_lose_38 rfl rfl ?_
      refine j_jn (fun k47 => ∀ (u6 : Int) (s7 : Mem), J K rmX11_lose cX11_lose RX11 4 47 [none, none, none, some (.inl v5)] [.inl u6, .inl a1, .inr (.inr 123)] s7 (k47 u6 s7)) (fun u6 s7 => ?_) (fun k47 hk47 => ?_)
      · refine j_iast sh_123 dX11_lose_47 (fun s8 => ?_)
        refine j_iload_n dX11_lose_48 rfl rfl ?_
        exact j_iret hq dX11_lose_49
      refine j_if_eq (tgt := 46) dX11_lose_39 rfl ?_ ?_
      · refine j_iconst dX11_lose_46 (inr_d rfl) ?_
        exact j_msk [false, false, false, true] (hk47 _ _)
      · refine j_iconst dX11_lose_42 (inr_d rfl) ?_
        refine j_goto (tgt := 47) dX11_lose_43 rfl ?_
        exact j_msk [false, false, false, true] (hk47 _ _)
    · refine j_bipush (v := (-2)) dX11_lose_21 (by decide +kernel) (inr_d rfl) ?_
      exact j_iret hq dX11_lose_23
  · refine j_iconst dX11_lose_10 (inr_d rfl) ?_
    exact j_iret hq dX11_lose_11
abbrev rmX11_from : Room := { frames := 1, cells := 0, slots := 0, locals := 22 }
theorem dX11_from_0 : decode cX11_from 0 = .ok (.iload_n 1, 1) := by decide +kernel
theorem dX11_from_1 : decode cX11_from 1 = .ok (.iconst 0, 1) := by decide +kernel
theorem dX11_from_2 : decode cX11_from 2 = .ok (.bipush 15, 2) := by decide +kernel
theorem dX11_from_4 : decode cX11_from 4 = .ok (.invokestatic 125, 3) := by decide +kernel
theorem dX11_from_7 : decode cX11_from 7 = .ok (.ifCond .eq 23, 3) := by decide +kernel
theorem dX11_from_10 : decode cX11_from 10 = .ok (.iload_n 2, 1) := by decide +kernel
theorem dX11_from_11 : decode cX11_from 11 = .ok (.iconst (-1), 1) := by decide +kernel
theorem dX11_from_12 : decode cX11_from 12 = .ok (.bipush 7, 2) := by decide +kernel
theorem dX11_from_14 : decode cX11_from 14 = .ok (.invokestatic 125, 3) := by decide +kernel
theorem dX11_from_17 : decode cX11_from 17 = .ok (.ifCond .eq 13, 3) := by decide +kernel
theorem dX11_from_20 : decode cX11_from 20 = .ok (.iload_n 3, 1) := by decide +kernel
theorem dX11_from_21 : decode cX11_from 21 = .ok (.iconst 0, 1) := by decide +kernel
theorem dX11_from_22 : decode cX11_from 22 = .ok (.ldc 238, 2) := by decide +kernel
theorem dX11_from_24 : decode cX11_from 24 = .ok (.invokestatic 125, 3) := by decide +kernel
theorem dX11_from_27 : decode cX11_from 27 = .ok (.ifCond .ne 5, 3) := by decide +kernel
theorem dX11_from_30 : decode cX11_from 30 = .ok (.iconst (-1), 1) := by decide +kernel
theorem dX11_from_31 : decode cX11_from 31 = .ok (.ireturn, 1) := by decide +kernel
theorem dX11_from_32 : decode cX11_from 32 = .ok (.iload_n 2, 1) := by decide +kernel
theorem dX11_from_33 : decode cX11_from 33 = .ok (.ifCond .lt 15, 3) := by decide +kernel
theorem dX11_from_36 : decode cX11_from 36 = .ok (.aload_n 0, 1) := by decide +kernel
theorem dX11_from_37 : decode cX11_from 37 = .ok (.getfield 86, 3) := by decide +kernel
theorem dX11_from_40 : decode cX11_from 40 = .ok (.iload_n 2, 1) := by decide +kernel
theorem dX11_from_41 : decode cX11_from 41 = .ok (.iaload, 1) := by decide +kernel
theorem dX11_from_42 : decode cX11_from 42 = .ok (.ifCond .ne 6, 3) := by decide +kernel
theorem dX11_from_45 : decode cX11_from 45 = .ok (.bipush (-2), 2) := by decide +kernel
theorem dX11_from_47 : decode cX11_from 47 = .ok (.ireturn, 1) := by decide +kernel
theorem dX11_from_48 : decode cX11_from 48 = .ok (.aload_n 0, 1) := by decide +kernel
theorem dX11_from_49 : decode cX11_from 49 = .ok (.getfield 74, 3) := by decide +kernel
theorem dX11_from_52 : decode cX11_from 52 = .ok (.iload_n 1, 1) := by decide +kernel
theorem dX11_from_53 : decode cX11_from 53 = .ok (.iload_n 2, 1) := by decide +kernel
theorem dX11_from_54 : decode cX11_from 54 = .ok (.iastore, 1) := by decide +kernel
theorem dX11_from_55 : decode cX11_from 55 = .ok (.aload_n 0, 1) := by decide +kernel
theorem dX11_from_56 : decode cX11_from 56 = .ok (.getfield 77, 3) := by decide +kernel
theorem dX11_from_59 : decode cX11_from 59 = .ok (.iload_n 1, 1) := by decide +kernel
theorem dX11_from_60 : decode cX11_from 60 = .ok (.iload_n 3, 1) := by decide +kernel
theorem dX11_from_61 : decode cX11_from 61 = .ok (.iastore, 1) := by decide +kernel
theorem dX11_from_62 : decode cX11_from 62 = .ok (.iconst 0, 1) := by decide +kernel
theorem dX11_from_63 : decode cX11_from 63 = .ok (.ireturn, 1) := by decide +kernel
def fX11_from (a1 : Int) (a2 : Int) (a3 : Int) (s0 : Mem) : Option Res :=
 bnd (fX11_in a1 0 15 s0) (fun r1 s2 =>
 (if r1 = 0 then
 some ((-1), s2)
 else
 bnd (fX11_in a2 (-1) 7 s2) (fun r3 s4 =>
 (if r3 = 0 then
 some ((-1), s4)
 else
 bnd (fX11_in a3 0 100000 s4) (fun r5 s6 =>
 (if r5 ≠ 0 then
 jn (fun (s7 : Mem) =>
 ST s7 119 a1 48 a2 (fun s8 =>
 ST s8 120 a1 48 a3 (fun s9 =>
 some (0, s9)))) (fun k48 =>
 (if a2 < 0 then
 k48 s6
 else
 rd (s6 123) a2 24 (fun v10 =>
 (if v10 ≠ 0 then
 k48 s6
 else
 some ((-2), s6)))))
 else
 some ((-1), s6)))))))
set_option maxRecDepth 100000 in
set_option maxHeartbeats 4000000 in
theorem mX11_from (l : Launch) (D : va_G) (ad : Nat → Nat) (cA : Nat → ClassId) (a1 : Int) (a2 : Int) (a3 : Int) (s0 : Mem) : MCi l D ad cA yX11_from cX11_from 4 (some .int) rmX11_from [.inr (.inr 100), .inl a1, .inl a2, .inl a3] s0 (fX11_from a1 a2 a3 s0) := by
  refine MCi_ofE (own := RX11) (ls := [some (.inr (.inr 100)), some (.inl a1), some (.inl a2), some (.inl a3)]) 0 (by decide +kernel) rfl rfl (fun _ => Nat.le_of_ble_eq_true rfl) (fun K hq => ?_)
  unfold fX11_from
  refine j_iload_n dX11_from_0 rfl rfl ?_
  refine j_iconst dX11_from_1 (inr_d rfl) ?_
  refine j_bipush (v := 15) dX11_from_2 (by decide +kernel) (inr_d rfl) ?_
  refine j_callSi (mX11_in (kl K) (kD K) (kad K) (kcA K) a1 0 15 s0) cw_RX11_125 ⟨rfl, rfl, by decide, by decide⟩ rfl rfl (Nat.le_of_ble_eq_true rfl) dX11_from_4 (fun r1 s2 => ?_)
  refine j_if_eq (tgt := 30) dX11_from_7 rfl ?_ ?_
  · refine j_iconst dX11_from_30 (inr_d rfl) ?_
    exact j_iret hq dX11_from_31
  · refine j_iload_n dX11_from_10 rfl rfl ?_
    refine j_iconst dX11_from_11 (inr_d rfl) ?_
    refine j_bipush (v := 7) dX11_from_12 (by decide +kernel) (inr_d rfl) ?_
    refine j_callSi (mX11_in (kl K) (kD K) (kad K) (kcA K) a2 (-1) 7 s2) cw_RX11_125 ⟨rfl, rfl, by decide, by decide⟩ rfl rfl (Nat.le_of_ble_eq_true rfl) dX11_from_14 (fun r3 s4 => ?_)
    refine j_if_eq (tgt := 30) dX11_from_17 rfl ?_ ?_
    · refine j_iconst dX11_from_30 (inr_d rfl) ?_
      exact j_iret hq dX11_from_31
    · refine j_iload_n dX11_from_20 rfl rfl ?_
      refine j_iconst dX11_from_21 (inr_d rfl) ?_
      refine j_ldc (v := 100000) dX11_from_22 cst_RX11_238 (inr_d rfl) ?_
      refine j_callSi (mX11_in (kl K) (kD K) (kad K) (kcA K) a3 0 100000 s4) cw_RX11_125 ⟨rfl, rfl, by decide, by decide⟩ rfl rfl (Nat.le_of_ble_eq_true rfl) dX11_from_24 (fun r5 s6 => ?_)
      refine j_if_ne (tgt := 32) dX11_from_27 rfl ?_ ?_
      · refine j_iload_n dX11_from_32 rfl rfl ?_
        refine j_jn (fun k48 => ∀ (s7 : Mem), J K rmX11_from cX11_from RX11 4 48 [some (.inr (.inr 100)), some (.inl a1), some (.inl a2), some (.inl a3)] [] s7 (k48 s7)) (fun s7 => ?_) (fun k48 hk48 => ?_)
        · refine j_aload_n dX11_from_48 rfl rfl ?_
          refine j_getR fl_RX11_74 sh_100 rfl dX11_from_49 ?_
          refine j_iload_n dX11_from_52 rfl rfl ?_
          refine j_iload_n dX11_from_53 rfl rfl ?_
          refine j_iast sh_119 dX11_from_54 (fun s8 => ?_)
          refine j_aload_n dX11_from_55 rfl rfl ?_
          refine j_getR fl_RX11_77 sh_100 rfl dX11_from_56 ?_
          refine j_iload_n dX11_from_59 rfl rfl ?_
          refine j_iload_n dX11_from_60 rfl rfl ?_
          refine j_iast sh_120 dX11_from_61 (fun s9 => ?_)
          refine j_iconst dX11_from_62 (inr_d rfl) ?_
          exact j_iret hq dX11_from_63
        refine j_if_lt (tgt := 48) dX11_from_33 rfl ?_ ?_
        · exact j_msk [true, true, true, true] (hk48 _)
        · refine j_aload_n dX11_from_36 rfl rfl ?_
          refine j_getR fl_RX11_86 sh_100 rfl dX11_from_37 ?_
          refine j_iload_n dX11_from_40 rfl rfl ?_
          refine j_iald sh_123 dX11_from_41 (fun v10 => ?_)
          refine j_if_ne (tgt := 48) dX11_from_42 rfl ?_ ?_
          · exact j_msk [true, true, true, true] (hk48 _)
          · refine j_bipush (v := (-2)) dX11_from_45 (by decide +kernel) (inr_d rfl) ?_
            exact j_iret hq dX11_from_47
      · refine j_iconst dX11_from_30 (inr_d rfl) ?_
        exact j_iret hq dX11_from_31
abbrev rmX11_edge : Room := { frames := 1, cells := 0, slots := 0, locals := 21 }
theorem dX11_edge_0 : decode cX11_edge 0 = .ok (.iload_n 1, 1) := by decide +kernel
theorem dX11_edge_1 : decode cX11_edge 1 = .ok (.ifCond .ge 5, 3) := by decide +kernel
theorem dX11_edge_4 : decode cX11_edge 4 = .ok (.iconst (-1), 1) := by decide +kernel
theorem dX11_edge_5 : decode cX11_edge 5 = .ok (.ireturn, 1) := by decide +kernel
theorem dX11_edge_6 : decode cX11_edge 6 = .ok (.aload_n 0, 1) := by decide +kernel
theorem dX11_edge_7 : decode cX11_edge 7 = .ok (.iload_n 1, 1) := by decide +kernel
theorem dX11_edge_8 : decode cX11_edge 8 = .ok (.invokevirtual 204, 3) := by decide +kernel
theorem dX11_edge_11 : decode cX11_edge 11 = .ok (.ifCond .ne 6, 3) := by decide +kernel
theorem dX11_edge_14 : decode cX11_edge 14 = .ok (.bipush (-2), 2) := by decide +kernel
theorem dX11_edge_16 : decode cX11_edge 16 = .ok (.ireturn, 1) := by decide +kernel
theorem dX11_edge_17 : decode cX11_edge 17 = .ok (.aload_n 0, 1) := by decide +kernel
theorem dX11_edge_18 : decode cX11_edge 18 = .ok (.getfield 74, 3) := by decide +kernel
theorem dX11_edge_21 : decode cX11_edge 21 = .ok (.aload_n 0, 1) := by decide +kernel
theorem dX11_edge_22 : decode cX11_edge 22 = .ok (.getfield 201, 3) := by decide +kernel
theorem dX11_edge_25 : decode cX11_edge 25 = .ok (.iaload, 1) := by decide +kernel
theorem dX11_edge_26 : decode cX11_edge 26 = .ok (.ifCond .ge 8, 3) := by decide +kernel
theorem dX11_edge_29 : decode cX11_edge 29 = .ok (.bipush (-4), 2) := by decide +kernel
theorem dX11_edge_31 : decode cX11_edge 31 = .ok (.goto 17, 3) := by decide +kernel
theorem dX11_edge_34 : decode cX11_edge 34 = .ok (.aload_n 0, 1) := by decide +kernel
theorem dX11_edge_35 : decode cX11_edge 35 = .ok (.getfield 77, 3) := by decide +kernel
theorem dX11_edge_38 : decode cX11_edge 38 = .ok (.aload_n 0, 1) := by decide +kernel
theorem dX11_edge_39 : decode cX11_edge 39 = .ok (.getfield 201, 3) := by decide +kernel
theorem dX11_edge_42 : decode cX11_edge 42 = .ok (.iaload, 1) := by decide +kernel
theorem dX11_edge_43 : decode cX11_edge 43 = .ok (.aload_n 0, 1) := by decide +kernel
theorem dX11_edge_44 : decode cX11_edge 44 = .ok (.getfield 198, 3) := by decide +kernel
theorem dX11_edge_47 : decode cX11_edge 47 = .ok (.iadd, 1) := by decide +kernel
theorem dX11_edge_48 : decode cX11_edge 48 = .ok (.ireturn, 1) := by decide +kernel
def fX11_edge (a1 : Int) (s0 : Mem) : Option Res :=
 (if 0 ≤ a1 then
 bnd (fX11_find a1 s0) (fun r1 s2 =>
 (if r1 ≠ 0 then
 rd (s2 119) (s2 100 35) 48 (fun v3 =>
 (if 0 ≤ v3 then
 rd (s2 120) (s2 100 35) 48 (fun v4 =>
 some (wr (v4 + (s2 100 36)), s2))
 else
 some ((-4), s2)))
 else
 some ((-2), s2)))
 else
 some ((-1), s0))
set_option maxRecDepth 100000 in
set_option maxHeartbeats 4000000 in
theorem mX11_edge (l : Launch) (D : va_G) (ad : Nat → Nat) (cA : Nat → ClassId) (a1 : Int) (s0 : Mem) : MCi l D ad cA yX11_edge cX11_edge 2 (some .int) rmX11_edge [.inr (.inr 100), .inl a1] s0 (fX11_edge a1 s0) := by
  refine MCi_ofE (own := RX11) (ls := [some (.inr (.inr 100)), some (.inl a1)]) 0 (by decide +kernel) rfl rfl (fun _ => Nat.le_of_ble_eq_true rfl) (fun K hq => ?_)
  unfold fX11_edge
  refine j_iload_n dX11_edge_0 rfl rfl ?_
  refine j_if_ge (tgt := 6) dX11_edge_1 rfl ?_ ?_
  · refine j_aload_n dX11_edge_6 rfl rfl ?_
    refine j_iload_n dX11_edge_7 rfl rfl ?_
    refine j_callVi (mX11_find (kl K) (kD K) (kad K) (kcA K) a1 s0) cw_RX11_204 sh_100 rfl ⟨rfl, rfl, by decide, by decide⟩ rfl rfl (Nat.le_of_ble_eq_true rfl) dX11_edge_8 (fun r1 s2 => ?_)
    refine j_if_ne (tgt := 17) dX11_edge_11 rfl ?_ ?_
    · refine j_aload_n dX11_edge_17 rfl rfl ?_
      refine j_getR fl_RX11_74 sh_100 rfl dX11_edge_18 ?_
      refine j_aload_n dX11_edge_21 rfl rfl ?_
      refine j_getI fl_RX11_201 sh_100 rfl dX11_edge_22 ?_
      refine j_iald sh_119 dX11_edge_25 (fun v3 => ?_)
      refine j_if_ge (tgt := 34) dX11_edge_26 rfl ?_ ?_
      · refine j_aload_n dX11_edge_34 rfl rfl ?_
        refine j_getR fl_RX11_77 sh_100 rfl dX11_edge_35 ?_
        refine j_aload_n dX11_edge_38 rfl rfl ?_
        refine j_getI fl_RX11_201 sh_100 rfl dX11_edge_39 ?_
        refine j_iald sh_120 dX11_edge_42 (fun v4 => ?_)
        refine j_aload_n dX11_edge_43 rfl rfl ?_
        refine j_getI fl_RX11_198 sh_100 rfl dX11_edge_44 ?_
        refine j_iadd dX11_edge_47 ?_
        exact j_iret hq dX11_edge_48
      · refine j_bipush (v := (-4)) dX11_edge_29 (by decide +kernel) (inr_d rfl) ?_
        refine j_goto (tgt := 48) dX11_edge_31 rfl ?_
        exact j_iret hq dX11_edge_48
    · refine j_bipush (v := (-2)) dX11_edge_14 (by decide +kernel) (inr_d rfl) ?_
      exact j_iret hq dX11_edge_16
  · refine j_iconst dX11_edge_4 (inr_d rfl) ?_
    exact j_iret hq dX11_edge_5
abbrev rmX11_missing : Room := { frames := 0, cells := 0, slots := 0, locals := 0 }
theorem dX11_missing_0 : decode cX11_missing 0 = .ok (.aload_n 0, 1) := by decide +kernel
theorem dX11_missing_1 : decode cX11_missing 1 = .ok (.getfield 191, 3) := by decide +kernel
theorem dX11_missing_4 : decode cX11_missing 4 = .ok (.ifCond .ne 6, 3) := by decide +kernel
theorem dX11_missing_7 : decode cX11_missing 7 = .ok (.bipush (-2), 2) := by decide +kernel
theorem dX11_missing_9 : decode cX11_missing 9 = .ok (.ireturn, 1) := by decide +kernel
theorem dX11_missing_10 : decode cX11_missing 10 = .ok (.iconst 0, 1) := by decide +kernel
theorem dX11_missing_11 : decode cX11_missing 11 = .ok (.istore_n 1, 1) := by decide +kernel
theorem dX11_missing_12 : decode cX11_missing 12 = .ok (.iconst 0, 1) := by decide +kernel
theorem dX11_missing_13 : decode cX11_missing 13 = .ok (.istore_n 2, 1) := by decide +kernel
theorem dX11_missing_14 : decode cX11_missing 14 = .ok (.iload_n 2, 1) := by decide +kernel
theorem dX11_missing_15 : decode cX11_missing 15 = .ok (.aload_n 0, 1) := by decide +kernel
theorem dX11_missing_16 : decode cX11_missing 16 = .ok (.getfield 35, 3) := by decide +kernel
theorem dX11_missing_19 : decode cX11_missing 19 = .ok (.iconst 1, 1) := by decide +kernel
theorem dX11_missing_20 : decode cX11_missing 20 = .ok (.iaload, 1) := by decide +kernel
theorem dX11_missing_21 : decode cX11_missing 21 = .ok (.if_icmp .ge 99, 3) := by decide +kernel
theorem dX11_missing_24 : decode cX11_missing 24 = .ok (.aload_n 0, 1) := by decide +kernel
theorem dX11_missing_25 : decode cX11_missing 25 = .ok (.getfield 74, 3) := by decide +kernel
theorem dX11_missing_28 : decode cX11_missing 28 = .ok (.iload_n 2, 1) := by decide +kernel
theorem dX11_missing_29 : decode cX11_missing 29 = .ok (.iaload, 1) := by decide +kernel
theorem dX11_missing_30 : decode cX11_missing 30 = .ok (.istore_n 3, 1) := by decide +kernel
theorem dX11_missing_31 : decode cX11_missing 31 = .ok (.iload_n 3, 1) := by decide +kernel
theorem dX11_missing_32 : decode cX11_missing 32 = .ok (.ifCond .lt 64, 3) := by decide +kernel
theorem dX11_missing_35 : decode cX11_missing 35 = .ok (.aload_n 0, 1) := by decide +kernel
theorem dX11_missing_36 : decode cX11_missing 36 = .ok (.getfield 86, 3) := by decide +kernel
theorem dX11_missing_39 : decode cX11_missing 39 = .ok (.iload_n 3, 1) := by decide +kernel
theorem dX11_missing_40 : decode cX11_missing 40 = .ok (.iaload, 1) := by decide +kernel
theorem dX11_missing_41 : decode cX11_missing 41 = .ok (.iconst 1, 1) := by decide +kernel
theorem dX11_missing_42 : decode cX11_missing 42 = .ok (.if_icmp .ne 54, 3) := by decide +kernel
theorem dX11_missing_45 : decode cX11_missing 45 = .ok (.aload_n 0, 1) := by decide +kernel
theorem dX11_missing_46 : decode cX11_missing 46 = .ok (.getfield 77, 3) := by decide +kernel
theorem dX11_missing_49 : decode cX11_missing 49 = .ok (.iload_n 2, 1) := by decide +kernel
theorem dX11_missing_50 : decode cX11_missing 50 = .ok (.iaload, 1) := by decide +kernel
theorem dX11_missing_51 : decode cX11_missing 51 = .ok (.aload_n 0, 1) := by decide +kernel
theorem dX11_missing_52 : decode cX11_missing 52 = .ok (.getfield 80, 3) := by decide +kernel
theorem dX11_missing_55 : decode cX11_missing 55 = .ok (.iload_n 3, 1) := by decide +kernel
theorem dX11_missing_56 : decode cX11_missing 56 = .ok (.iaload, 1) := by decide +kernel
theorem dX11_missing_57 : decode cX11_missing 57 = .ok (.if_icmp .lt 39, 3) := by decide +kernel
theorem dX11_missing_60 : decode cX11_missing 60 = .ok (.aload_n 0, 1) := by decide +kernel
theorem dX11_missing_61 : decode cX11_missing 61 = .ok (.getfield 77, 3) := by decide +kernel
theorem dX11_missing_64 : decode cX11_missing 64 = .ok (.iload_n 2, 1) := by decide +kernel
theorem dX11_missing_65 : decode cX11_missing 65 = .ok (.iaload, 1) := by decide +kernel
theorem dX11_missing_66 : decode cX11_missing 66 = .ok (.aload_n 0, 1) := by decide +kernel
theorem dX11_missing_67 : decode cX11_missing 67 = .ok (.getfield 41, 3) := by decide +kernel
theorem dX11_missing_70 : decode cX11_missing 70 = .ok (.bipush 16, 2) := by decide +kernel
theorem dX11_missing_72 : decode cX11_missing 72 = .ok (.iload_n 2, 1) := by decide +kernel
theorem dX11_missing_73 : decode cX11_missing 73 = .ok (.iadd, 1) := by decide +kernel
theorem dX11_missing_74 : decode cX11_missing 74 = .ok (.iaload, 1) := by decide +kernel
theorem dX11_missing_75 : decode cX11_missing 75 = .ok (.iadd, 1) := by decide +kernel
theorem dX11_missing_76 : decode cX11_missing 76 = .ok (.aload_n 0, 1) := by decide +kernel
theorem dX11_missing_77 : decode cX11_missing 77 = .ok (.getfield 80, 3) := by decide +kernel
theorem dX11_missing_80 : decode cX11_missing 80 = .ok (.iload_n 3, 1) := by decide +kernel
theorem dX11_missing_81 : decode cX11_missing 81 = .ok (.iaload, 1) := by decide +kernel
theorem dX11_missing_82 : decode cX11_missing 82 = .ok (.aload_n 0, 1) := by decide +kernel
theorem dX11_missing_83 : decode cX11_missing 83 = .ok (.getfield 83, 3) := by decide +kernel
theorem dX11_missing_86 : decode cX11_missing 86 = .ok (.iload_n 3, 1) := by decide +kernel
theorem dX11_missing_87 : decode cX11_missing 87 = .ok (.iaload, 1) := by decide +kernel
theorem dX11_missing_88 : decode cX11_missing 88 = .ok (.iadd, 1) := by decide +kernel
theorem dX11_missing_89 : decode cX11_missing 89 = .ok (.if_icmp .gt 7, 3) := by decide +kernel
theorem dX11_missing_92 : decode cX11_missing 92 = .ok (.iconst 1, 1) := by decide +kernel
theorem dX11_missing_93 : decode cX11_missing 93 = .ok (.goto 4, 3) := by decide +kernel
theorem dX11_missing_96 : decode cX11_missing 96 = .ok (.iconst 0, 1) := by decide +kernel
theorem dX11_missing_97 : decode cX11_missing 97 = .ok (.istore 4, 2) := by decide +kernel
theorem dX11_missing_99 : decode cX11_missing 99 = .ok (.iload_n 1, 1) := by decide +kernel
theorem dX11_missing_100 : decode cX11_missing 100 = .ok (.iload 4, 2) := by decide +kernel
theorem dX11_missing_102 : decode cX11_missing 102 = .ok (.ifCond .eq 7, 3) := by decide +kernel
theorem dX11_missing_105 : decode cX11_missing 105 = .ok (.iconst 0, 1) := by decide +kernel
theorem dX11_missing_106 : decode cX11_missing 106 = .ok (.goto 6, 3) := by decide +kernel
theorem dX11_missing_109 : decode cX11_missing 109 = .ok (.iconst 1, 1) := by decide +kernel
theorem dX11_missing_110 : decode cX11_missing 110 = .ok (.iload_n 2, 1) := by decide +kernel
theorem dX11_missing_111 : decode cX11_missing 111 = .ok (.ishl, 1) := by decide +kernel
theorem dX11_missing_112 : decode cX11_missing 112 = .ok (.ior, 1) := by decide +kernel
theorem dX11_missing_113 : decode cX11_missing 113 = .ok (.istore_n 1, 1) := by decide +kernel
theorem dX11_missing_114 : decode cX11_missing 114 = .ok (.iinc 2 1, 3) := by decide +kernel
theorem dX11_missing_117 : decode cX11_missing 117 = .ok (.goto (-103), 3) := by decide +kernel
theorem dX11_missing_120 : decode cX11_missing 120 = .ok (.iload_n 1, 1) := by decide +kernel
theorem dX11_missing_121 : decode cX11_missing 121 = .ok (.ireturn, 1) := by decide +kernel
def LX11_missing_14 (k120 : Int → Mem → Option Res) : Nat → Int → Int → Mem → Option Res
  | 0 => fun _ _ _ => none
  | n + 1 => fun x1 x2 s => rd (s 106) 1 4 (fun v1 =>
 (if v1 ≤ x2 then
 k120 x1 s
 else
 rd (s 119) x2 48 (fun v2 =>
 jn (fun (u3 : Int) (s4 : Mem) =>
 (if u3 = 0 then
 lt (iir x1 (ish 1 x2)) (fun v5 =>
 LX11_missing_14 k120 n v5 (wr (x2 + 1)) s4)
 else
 lt (iir x1 0) (fun v6 =>
 LX11_missing_14 k120 n v6 (wr (x2 + 1)) s4))) (fun k97 =>
 (if v2 < 0 then
 k97 0 s
 else
 rd (s 123) v2 24 (fun v7 =>
 (if v7 ≠ 1 then
 k97 0 s
 else
 rd (s 120) x2 48 (fun v8 =>
 rd (s 121) v2 24 (fun v9 =>
 (if v8 < v9 then
 k97 0 s
 else
 rd (s 120) x2 48 (fun v10 =>
 rd (s 108) (wr (16 + x2)) 64 (fun v11 =>
 rd (s 121) v2 24 (fun v12 =>
 rd (s 122) v2 24 (fun v13 =>
 (if wr (v12 + v13) < wr (v10 + v11) then
 k97 0 s
 else
 k97 1 s)))))))))))))))
def fX11_missing (s0 : Mem) : Option Res :=
 (if s0 100 19 ≠ 0 then
 LX11_missing_14 (fun y15 s14 =>
 some (y15, s14)) FU 0 0 s0
 else
 some ((-2), s0))
set_option maxRecDepth 100000 in
set_option maxHeartbeats 4000000 in
theorem jLX11_missing_14 {K : KT} (hq : KI K (some .int)) (k120 : Int → Mem → Option Res) (hk120 : ∀ (y1 : Int) (s : Mem), J K rmX11_missing cX11_missing RX11 5 120 [none, some (.inl y1), none, none, none] [] s (k120 y1 s)) : ∀ (n : Nat) (x1 : Int) (x2 : Int) (s : Mem), J K rmX11_missing cX11_missing RX11 5 14 [some (.inr (.inr 100)), some (.inl x1), some (.inl x2), none, none] [] s (LX11_missing_14 k120 n x1 x2 s) := by
  intro n
  induction n with
  | zero => intros; exact J_none
  | succ n ih =>
    intro x1 x2 s
    show J K _ _ _ _ _ _ _ _ (LX11_missing_14 k120 (n + 1) x1 x2 s)
    simp only [LX11_missing_14]
    refine j_iload_n dX11_missing_14 rfl rfl ?_
    refine j_aload_n dX11_missing_15 rfl rfl ?_
    refine j_getR fl_RX11_35 sh_100 rfl dX11_missing_16 ?_
    refine j_iconst dX11_missing_19 (inr_d rfl) ?_
    refine j_iald sh_106 dX11_missing_20 (fun v1 => ?_)
    refine j_icmp_ge (tgt := 120) dX11_missing_21 rfl ?_ ?_
    · exact j_msk [false, true, false, false, false] (hk120 _ _)
    · refine j_aload_n dX11_missing_24 rfl rfl ?_
      refine j_getR fl_RX11_74 sh_100 rfl dX11_missing_25 ?_
      refine j_iload_n dX11_missing_28 rfl rfl ?_
      refine j_iald sh_119 dX11_missing_29 (fun v2 => ?_)
      refine j_istore_nE (ls2 := [some (.inr (.inr 100)), some (.inl x1), some (.inl x2), some (.inl v2), none]) dX11_missing_30 rfl (by decide) rfl rfl ?_
      refine j_iload_n dX11_missing_31 rfl rfl ?_
      refine j_jn (fun k97 => ∀ (u3 : Int) (s4 : Mem), J K rmX11_missing cX11_missing RX11 5 97 [some (.inr (.inr 100)), some (.inl x1), some (.inl x2), none, none] [.inl u3] s4 (k97 u3 s4)) (fun u3 s4 => ?_) (fun k97 hk97 => ?_)
      · refine j_istoreE (ls2 := [some (.inr (.inr 100)), some (.inl x1), some (.inl x2), none, some (.inl u3)]) dX11_missing_97 (by decide) rfl rfl ?_
        refine j_iload_n dX11_missing_99 rfl rfl ?_
        refine j_iload dX11_missing_100 rfl ?_
        refine j_if_eq (tgt := 109) dX11_missing_102 rfl ?_ ?_
        · refine j_iconst dX11_missing_109 (inr_d rfl) ?_
          refine j_iload_n dX11_missing_110 rfl rfl ?_
          refine j_ishl dX11_missing_111 ?_
          refine j_ior dX11_missing_112 ?_
          refine j_ltv (fun v5 => ?_)
          refine j_istore_nE (ls2 := [some (.inr (.inr 100)), some (.inl v5), some (.inl x2), none, some (.inl u3)]) dX11_missing_113 rfl (by decide) rfl rfl ?_
          refine j_iincE (ls2 := [some (.inr (.inr 100)), some (.inl v5), some (.inl (wr (x2 + 1))), none, some (.inl u3)]) dX11_missing_114 rfl (by decide) rfl rfl ?_
          refine j_goto (tgt := 14) dX11_missing_117 rfl ?_
          exact j_msk [true, true, true, false, false] (ih _ _ _)
        · refine j_iconst dX11_missing_105 (inr_d rfl) ?_
          refine j_goto (tgt := 112) dX11_missing_106 rfl ?_
          refine j_ior dX11_missing_112 ?_
          refine j_ltv (fun v6 => ?_)
          refine j_istore_nE (ls2 := [some (.inr (.inr 100)), some (.inl v6), some (.inl x2), none, some (.inl u3)]) dX11_missing_113 rfl (by decide) rfl rfl ?_
          refine j_iincE (ls2 := [some (.inr (.inr 100)), some (.inl v6), some (.inl (wr (x2 + 1))), none, some (.inl u3)]) dX11_missing_114 rfl (by decide) rfl rfl ?_
          refine j_goto (tgt := 14) dX11_missing_117 rfl ?_
          exact j_msk [true, true, true, false, false] (ih _ _ _)
      refine j_if_lt (tgt := 96) dX11_missing_32 rfl ?_ ?_
      · refine j_iconst dX11_missing_96 (inr_d rfl) ?_
        exact j_msk [true, true, true, false, false] (hk97 _ _)
      · refine j_aload_n dX11_missing_35 rfl rfl ?_
        refine j_getR fl_RX11_86 sh_100 rfl dX11_missing_36 ?_
        refine j_iload_n dX11_missing_39 rfl rfl ?_
        refine j_iald sh_123 dX11_missing_40 (fun v7 => ?_)
        refine j_iconst dX11_missing_41 (inr_d rfl) ?_
        refine j_icmp_ne (tgt := 96) dX11_missing_42 rfl ?_ ?_
        · refine j_iconst dX11_missing_96 (inr_d rfl) ?_
          exact j_msk [true, true, true, false, false] (hk97 _ _)
        · refine j_aload_n dX11_missing_45 rfl rfl ?_
          refine j_getR fl_RX11_77 sh_100 rfl dX11_missing_46 ?_
          refine j_iload_n dX11_missing_49 rfl rfl ?_
          refine j_iald sh_120 dX11_missing_50 (fun v8 => ?_)
          refine j_aload_n dX11_missing_51 rfl rfl ?_
          refine j_getR fl_RX11_80 sh_100 rfl dX11_missing_52 ?_
          refine j_iload_n dX11_missing_55 rfl rfl ?_
          refine j_iald sh_121 dX11_missing_56 (fun v9 => ?_)
          refine j_icmp_lt (tgt := 96) dX11_missing_57 rfl ?_ ?_
          · refine j_iconst dX11_missing_96 (inr_d rfl) ?_
            exact j_msk [true, true, true, false, false] (hk97 _ _)
          · refine j_aload_n dX11_missing_60 rfl rfl ?_
            refine j_getR fl_RX11_77 sh_100 rfl dX11_missing_61 ?_
            refine j_iload_n dX11_missing_64 rfl rfl ?_
            refine j_iald sh_120 dX11_missing_65 (fun v10 => ?_)
            refine j_aload_n dX11_missing_66 rfl rfl ?_
            refine j_getR fl_RX11_41 sh_100 rfl dX11_missing_67 ?_
            refine j_bipush (v := 16) dX11_missing_70 (by decide +kernel) (inr_d rfl) ?_
            refine j_iload_n dX11_missing_72 rfl rfl ?_
            refine j_iadd dX11_missing_73 ?_
            refine j_iald sh_108 dX11_missing_74 (fun v11 => ?_)
            refine j_iadd dX11_missing_75 ?_
            refine j_aload_n dX11_missing_76 rfl rfl ?_
            refine j_getR fl_RX11_80 sh_100 rfl dX11_missing_77 ?_
            refine j_iload_n dX11_missing_80 rfl rfl ?_
            refine j_iald sh_121 dX11_missing_81 (fun v12 => ?_)
            refine j_aload_n dX11_missing_82 rfl rfl ?_
            refine j_getR fl_RX11_83 sh_100 rfl dX11_missing_83 ?_
            refine j_iload_n dX11_missing_86 rfl rfl ?_
            refine j_iald sh_122 dX11_missing_87 (fun v13 => ?_)
            refine j_iadd dX11_missing_88 ?_
            refine j_icmp_gt (tgt := 96) dX11_missing_89 rfl ?_ ?_
            · refine j_iconst dX11_missing_96 (inr_d rfl) ?_
              exact j_msk [true, true, true, false, false] (hk97 _ _)
            · refine j_iconst dX11_missing_92 (inr_d rfl) ?_
              refine j_goto (tgt := 97) dX11_missing_93 rfl ?_
              exact j_msk [true, true, true, false, false] (hk97 _ _)
set_option maxRecDepth 100000 in
set_option maxHeartbeats 4000000 in
theorem mX11_missing (l : Launch) (D : va_G) (ad : Nat → Nat) (cA : Nat → ClassId) (s0 : Mem) : MCi l D ad cA yX11_missing cX11_missing 5 (some .int) rmX11_missing [.inr (.inr 100)] s0 (fX11_missing s0) := by
  refine MCi_ofE (own := RX11) (ls := [some (.inr (.inr 100)), none, none, none, none]) 4 (by decide +kernel) rfl rfl (fun _ => Nat.le_of_ble_eq_true rfl) (fun K hq => ?_)
  unfold fX11_missing
  refine j_aload_n dX11_missing_0 rfl rfl ?_
  refine j_getI fl_RX11_191 sh_100 rfl dX11_missing_1 ?_
  refine j_if_ne (tgt := 10) dX11_missing_4 rfl ?_ ?_
  · refine j_iconst dX11_missing_10 (inr_d rfl) ?_
    refine j_istore_nE (ls2 := [some (.inr (.inr 100)), some (.inl 0), none, none, none]) dX11_missing_11 rfl (by decide) rfl rfl ?_
    refine j_iconst dX11_missing_12 (inr_d rfl) ?_
    refine j_istore_nE (ls2 := [some (.inr (.inr 100)), some (.inl 0), some (.inl 0), none, none]) dX11_missing_13 rfl (by decide) rfl rfl ?_
    refine j_msk [true, true, true, false, false] (jLX11_missing_14 hq _ (fun y15 s14 => ?_) _ _ _ _)
    refine j_iload_n dX11_missing_120 rfl rfl ?_
    exact j_iret hq dX11_missing_121
  · refine j_bipush (v := (-2)) dX11_missing_7 (by decide +kernel) (inr_d rfl) ?_
    exact j_iret hq dX11_missing_9
abbrev rmX11_where : Room := { frames := 1, cells := 0, slots := 0, locals := 22 }
theorem dX11_where_0 : decode cX11_where 0 = .ok (.iload_n 1, 1) := by decide +kernel
theorem dX11_where_1 : decode cX11_where 1 = .ok (.iconst 0, 1) := by decide +kernel
theorem dX11_where_2 : decode cX11_where 2 = .ok (.bipush 7, 2) := by decide +kernel
theorem dX11_where_4 : decode cX11_where 4 = .ok (.invokestatic 125, 3) := by decide +kernel
theorem dX11_where_7 : decode cX11_where 7 = .ok (.ifCond .eq 13, 3) := by decide +kernel
theorem dX11_where_10 : decode cX11_where 10 = .ok (.iload_n 2, 1) := by decide +kernel
theorem dX11_where_11 : decode cX11_where 11 = .ok (.iconst 0, 1) := by decide +kernel
theorem dX11_where_12 : decode cX11_where 12 = .ok (.ldc 238, 2) := by decide +kernel
theorem dX11_where_14 : decode cX11_where 14 = .ok (.invokestatic 125, 3) := by decide +kernel
theorem dX11_where_17 : decode cX11_where 17 = .ok (.ifCond .ne 5, 3) := by decide +kernel
theorem dX11_where_20 : decode cX11_where 20 = .ok (.iconst (-1), 1) := by decide +kernel
theorem dX11_where_21 : decode cX11_where 21 = .ok (.ireturn, 1) := by decide +kernel
theorem dX11_where_22 : decode cX11_where 22 = .ok (.aload_n 0, 1) := by decide +kernel
theorem dX11_where_23 : decode cX11_where 23 = .ok (.getfield 191, 3) := by decide +kernel
theorem dX11_where_26 : decode cX11_where 26 = .ok (.ifCond .ne 6, 3) := by decide +kernel
theorem dX11_where_29 : decode cX11_where 29 = .ok (.bipush (-2), 2) := by decide +kernel
theorem dX11_where_31 : decode cX11_where 31 = .ok (.ireturn, 1) := by decide +kernel
theorem dX11_where_32 : decode cX11_where 32 = .ok (.iconst 0, 1) := by decide +kernel
theorem dX11_where_33 : decode cX11_where 33 = .ok (.istore_n 3, 1) := by decide +kernel
theorem dX11_where_34 : decode cX11_where 34 = .ok (.iconst 0, 1) := by decide +kernel
theorem dX11_where_35 : decode cX11_where 35 = .ok (.istore 4, 2) := by decide +kernel
theorem dX11_where_37 : decode cX11_where 37 = .ok (.iload 4, 2) := by decide +kernel
theorem dX11_where_39 : decode cX11_where 39 = .ok (.aload_n 0, 1) := by decide +kernel
theorem dX11_where_40 : decode cX11_where 40 = .ok (.getfield 35, 3) := by decide +kernel
theorem dX11_where_43 : decode cX11_where 43 = .ok (.iconst 1, 1) := by decide +kernel
theorem dX11_where_44 : decode cX11_where 44 = .ok (.iaload, 1) := by decide +kernel
theorem dX11_where_45 : decode cX11_where 45 = .ok (.if_icmp .ge 79, 3) := by decide +kernel
theorem dX11_where_48 : decode cX11_where 48 = .ok (.aload_n 0, 1) := by decide +kernel
theorem dX11_where_49 : decode cX11_where 49 = .ok (.getfield 74, 3) := by decide +kernel
theorem dX11_where_52 : decode cX11_where 52 = .ok (.iload 4, 2) := by decide +kernel
theorem dX11_where_54 : decode cX11_where 54 = .ok (.iaload, 1) := by decide +kernel
theorem dX11_where_55 : decode cX11_where 55 = .ok (.iload_n 1, 1) := by decide +kernel
theorem dX11_where_56 : decode cX11_where 56 = .ok (.if_icmp .ne 49, 3) := by decide +kernel
theorem dX11_where_59 : decode cX11_where 59 = .ok (.iload_n 2, 1) := by decide +kernel
theorem dX11_where_60 : decode cX11_where 60 = .ok (.aload_n 0, 1) := by decide +kernel
theorem dX11_where_61 : decode cX11_where 61 = .ok (.getfield 77, 3) := by decide +kernel
theorem dX11_where_64 : decode cX11_where 64 = .ok (.iload 4, 2) := by decide +kernel
theorem dX11_where_66 : decode cX11_where 66 = .ok (.iaload, 1) := by decide +kernel
theorem dX11_where_67 : decode cX11_where 67 = .ok (.aload_n 0, 1) := by decide +kernel
theorem dX11_where_68 : decode cX11_where 68 = .ok (.getfield 77, 3) := by decide +kernel
theorem dX11_where_71 : decode cX11_where 71 = .ok (.iload 4, 2) := by decide +kernel
theorem dX11_where_73 : decode cX11_where 73 = .ok (.iaload, 1) := by decide +kernel
theorem dX11_where_74 : decode cX11_where 74 = .ok (.aload_n 0, 1) := by decide +kernel
theorem dX11_where_75 : decode cX11_where 75 = .ok (.getfield 41, 3) := by decide +kernel
theorem dX11_where_78 : decode cX11_where 78 = .ok (.bipush 16, 2) := by decide +kernel
theorem dX11_where_80 : decode cX11_where 80 = .ok (.iload 4, 2) := by decide +kernel
theorem dX11_where_82 : decode cX11_where 82 = .ok (.iadd, 1) := by decide +kernel
theorem dX11_where_83 : decode cX11_where 83 = .ok (.iaload, 1) := by decide +kernel
theorem dX11_where_84 : decode cX11_where 84 = .ok (.iadd, 1) := by decide +kernel
theorem dX11_where_85 : decode cX11_where 85 = .ok (.iconst 1, 1) := by decide +kernel
theorem dX11_where_86 : decode cX11_where 86 = .ok (.isub, 1) := by decide +kernel
theorem dX11_where_87 : decode cX11_where 87 = .ok (.invokestatic 125, 3) := by decide +kernel
theorem dX11_where_90 : decode cX11_where 90 = .ok (.ifCond .eq 15, 3) := by decide +kernel
theorem dX11_where_93 : decode cX11_where 93 = .ok (.iload_n 3, 1) := by decide +kernel
theorem dX11_where_94 : decode cX11_where 94 = .ok (.iload_n 2, 1) := by decide +kernel
theorem dX11_where_95 : decode cX11_where 95 = .ok (.iadd, 1) := by decide +kernel
theorem dX11_where_96 : decode cX11_where 96 = .ok (.aload_n 0, 1) := by decide +kernel
theorem dX11_where_97 : decode cX11_where 97 = .ok (.getfield 77, 3) := by decide +kernel
theorem dX11_where_100 : decode cX11_where 100 = .ok (.iload 4, 2) := by decide +kernel
theorem dX11_where_102 : decode cX11_where 102 = .ok (.iaload, 1) := by decide +kernel
theorem dX11_where_103 : decode cX11_where 103 = .ok (.isub, 1) := by decide +kernel
theorem dX11_where_104 : decode cX11_where 104 = .ok (.ireturn, 1) := by decide +kernel
theorem dX11_where_105 : decode cX11_where 105 = .ok (.iload_n 3, 1) := by decide +kernel
theorem dX11_where_106 : decode cX11_where 106 = .ok (.aload_n 0, 1) := by decide +kernel
theorem dX11_where_107 : decode cX11_where 107 = .ok (.getfield 41, 3) := by decide +kernel
theorem dX11_where_110 : decode cX11_where 110 = .ok (.bipush 16, 2) := by decide +kernel
theorem dX11_where_112 : decode cX11_where 112 = .ok (.iload 4, 2) := by decide +kernel
theorem dX11_where_114 : decode cX11_where 114 = .ok (.iadd, 1) := by decide +kernel
theorem dX11_where_115 : decode cX11_where 115 = .ok (.iaload, 1) := by decide +kernel
theorem dX11_where_116 : decode cX11_where 116 = .ok (.iadd, 1) := by decide +kernel
theorem dX11_where_117 : decode cX11_where 117 = .ok (.istore_n 3, 1) := by decide +kernel
theorem dX11_where_118 : decode cX11_where 118 = .ok (.iinc 4 1, 3) := by decide +kernel
theorem dX11_where_121 : decode cX11_where 121 = .ok (.goto (-84), 3) := by decide +kernel
theorem dX11_where_124 : decode cX11_where 124 = .ok (.bipush (-4), 2) := by decide +kernel
theorem dX11_where_126 : decode cX11_where 126 = .ok (.ireturn, 1) := by decide +kernel
def LX11_where_37 (c1 : Int) (c2 : Int) (k124 : Mem → Option Res) : Nat → Int → Int → Mem → Option Res
  | 0 => fun _ _ _ => none
  | n + 1 => fun x3 x4 s => rd (s 106) 1 4 (fun v5 =>
 (if v5 ≤ x4 then
 k124 s
 else
 rd (s 119) x4 48 (fun v6 =>
 jn (fun (s7 : Mem) =>
 rd (s7 108) (wr (16 + x4)) 64 (fun v8 =>
 lt (wr (x3 + v8)) (fun v9 =>
 LX11_where_37 c1 c2 k124 n v9 (wr (x4 + 1)) s7))) (fun k105 =>
 (if v6 ≠ c1 then
 k105 s
 else
 rd (s 120) x4 48 (fun v10 =>
 rd (s 120) x4 48 (fun v11 =>
 rd (s 108) (wr (16 + x4)) 64 (fun v12 =>
 bnd (fX11_in c2 v10 (wr ((wr (v11 + v12)) - 1)) s) (fun r13 s14 =>
 (if r13 = 0 then
 k105 s14
 else
 rd (s14 120) x4 48 (fun v15 =>
 some (wr ((wr (x3 + c2)) - v15), s14))))))))))))
def fX11_where (a1 : Int) (a2 : Int) (s0 : Mem) : Option Res :=
 bnd (fX11_in a1 0 7 s0) (fun r1 s2 =>
 (if r1 = 0 then
 some ((-1), s2)
 else
 bnd (fX11_in a2 0 100000 s2) (fun r3 s4 =>
 (if r3 ≠ 0 then
 (if s4 100 19 ≠ 0 then
 LX11_where_37 a1 a2 (fun s16 =>
 some ((-4), s16)) FU 0 0 s4
 else
 some ((-2), s4))
 else
 some ((-1), s4)))))
set_option maxRecDepth 100000 in
set_option maxHeartbeats 4000000 in
theorem jLX11_where_37 {K : KT} (hq : KI K (some .int)) (c1 : Int) (c2 : Int) (k124 : Mem → Option Res) (hk124 : ∀ (s : Mem), J K rmX11_where cX11_where RX11 5 124 [none, none, none, none, none] [] s (k124 s)) : ∀ (n : Nat) (x3 : Int) (x4 : Int) (s : Mem), J K rmX11_where cX11_where RX11 5 37 [some (.inr (.inr 100)), some (.inl c1), some (.inl c2), some (.inl x3), some (.inl x4)] [] s (LX11_where_37 c1 c2 k124 n x3 x4 s) := by
  intro n
  induction n with
  | zero => intros; exact J_none
  | succ n ih =>
    intro x3 x4 s
    show J K _ _ _ _ _ _ _ _ (LX11_where_37 c1 c2 k124 (n + 1) x3 x4 s)
    simp only [LX11_where_37]
    refine j_iload dX11_where_37 rfl ?_
    refine j_aload_n dX11_where_39 rfl rfl ?_
    refine j_getR fl_RX11_35 sh_100 rfl dX11_where_40 ?_
    refine j_iconst dX11_where_43 (inr_d rfl) ?_
    refine j_iald sh_106 dX11_where_44 (fun v5 => ?_)
    refine j_icmp_ge (tgt := 124) dX11_where_45 rfl ?_ ?_
    · exact j_msk [false, false, false, false, false] (hk124 _)
    · refine j_aload_n dX11_where_48 rfl rfl ?_
      refine j_getR fl_RX11_74 sh_100 rfl dX11_where_49 ?_
      refine j_iload dX11_where_52 rfl ?_
      refine j_iald sh_119 dX11_where_54 (fun v6 => ?_)
      refine j_iload_n dX11_where_55 rfl rfl ?_
      refine j_jn (fun k105 => ∀ (s7 : Mem), J K rmX11_where cX11_where RX11 5 105 [some (.inr (.inr 100)), some (.inl c1), some (.inl c2), some (.inl x3), some (.inl x4)] [] s7 (k105 s7)) (fun s7 => ?_) (fun k105 hk105 => ?_)
      · refine j_iload_n dX11_where_105 rfl rfl ?_
        refine j_aload_n dX11_where_106 rfl rfl ?_
        refine j_getR fl_RX11_41 sh_100 rfl dX11_where_107 ?_
        refine j_bipush (v := 16) dX11_where_110 (by decide +kernel) (inr_d rfl) ?_
        refine j_iload dX11_where_112 rfl ?_
        refine j_iadd dX11_where_114 ?_
        refine j_iald sh_108 dX11_where_115 (fun v8 => ?_)
        refine j_iadd dX11_where_116 ?_
        refine j_ltv (fun v9 => ?_)
        refine j_istore_nE (ls2 := [some (.inr (.inr 100)), some (.inl c1), some (.inl c2), some (.inl v9), some (.inl x4)]) dX11_where_117 rfl (by decide) rfl rfl ?_
        refine j_iincE (ls2 := [some (.inr (.inr 100)), some (.inl c1), some (.inl c2), some (.inl v9), some (.inl (wr (x4 + 1)))]) dX11_where_118 rfl (by decide) rfl rfl ?_
        refine j_goto (tgt := 37) dX11_where_121 rfl ?_
        exact j_msk [true, true, true, true, true] (ih _ _ _)
      refine j_icmp_ne (tgt := 105) dX11_where_56 rfl ?_ ?_
      · exact j_msk [true, true, true, true, true] (hk105 _)
      · refine j_iload_n dX11_where_59 rfl rfl ?_
        refine j_aload_n dX11_where_60 rfl rfl ?_
        refine j_getR fl_RX11_77 sh_100 rfl dX11_where_61 ?_
        refine j_iload dX11_where_64 rfl ?_
        refine j_iald sh_120 dX11_where_66 (fun v10 => ?_)
        refine j_aload_n dX11_where_67 rfl rfl ?_
        refine j_getR fl_RX11_77 sh_100 rfl dX11_where_68 ?_
        refine j_iload dX11_where_71 rfl ?_
        refine j_iald sh_120 dX11_where_73 (fun v11 => ?_)
        refine j_aload_n dX11_where_74 rfl rfl ?_
        refine j_getR fl_RX11_41 sh_100 rfl dX11_where_75 ?_
        refine j_bipush (v := 16) dX11_where_78 (by decide +kernel) (inr_d rfl) ?_
        refine j_iload dX11_where_80 rfl ?_
        refine j_iadd dX11_where_82 ?_
        refine j_iald sh_108 dX11_where_83 (fun v12 => ?_)
        refine j_iadd dX11_where_84 ?_
        refine j_iconst dX11_where_85 (inr_d rfl) ?_
        refine j_isub dX11_where_86 ?_
        refine j_callSi (mX11_in (kl K) (kD K) (kad K) (kcA K) c2 v10 (wr ((wr (v11 + v12)) - 1)) s) cw_RX11_125 ⟨rfl, rfl, by decide, by decide⟩ rfl rfl (Nat.le_of_ble_eq_true rfl) dX11_where_87 (fun r13 s14 => ?_)
        refine j_if_eq (tgt := 105) dX11_where_90 rfl ?_ ?_
        · exact j_msk [true, true, true, true, true] (hk105 _)
        · refine j_iload_n dX11_where_93 rfl rfl ?_
          refine j_iload_n dX11_where_94 rfl rfl ?_
          refine j_iadd dX11_where_95 ?_
          refine j_aload_n dX11_where_96 rfl rfl ?_
          refine j_getR fl_RX11_77 sh_100 rfl dX11_where_97 ?_
          refine j_iload dX11_where_100 rfl ?_
          refine j_iald sh_120 dX11_where_102 (fun v15 => ?_)
          refine j_isub dX11_where_103 ?_
          exact j_iret hq dX11_where_104
set_option maxRecDepth 100000 in
set_option maxHeartbeats 4000000 in
theorem mX11_where (l : Launch) (D : va_G) (ad : Nat → Nat) (cA : Nat → ClassId) (a1 : Int) (a2 : Int) (s0 : Mem) : MCi l D ad cA yX11_where cX11_where 5 (some .int) rmX11_where [.inr (.inr 100), .inl a1, .inl a2] s0 (fX11_where a1 a2 s0) := by
  refine MCi_ofE (own := RX11) (ls := [some (.inr (.inr 100)), some (.inl a1), some (.inl a2), none, none]) 2 (by decide +kernel) rfl rfl (fun _ => Nat.le_of_ble_eq_true rfl) (fun K hq => ?_)
  unfold fX11_where
  refine j_iload_n dX11_where_0 rfl rfl ?_
  refine j_iconst dX11_where_1 (inr_d rfl) ?_
  refine j_bipush (v := 7) dX11_where_2 (by decide +kernel) (inr_d rfl) ?_
  refine j_callSi (mX11_in (kl K) (kD K) (kad K) (kcA K) a1 0 7 s0) cw_RX11_125 ⟨rfl, rfl, by decide, by decide⟩ rfl rfl (Nat.le_of_ble_eq_true rfl) dX11_where_4 (fun r1 s2 => ?_)
  refine j_if_eq (tgt := 20) dX11_where_7 rfl ?_ ?_
  · refine j_iconst dX11_where_20 (inr_d rfl) ?_
    exact j_iret hq dX11_where_21
  · refine j_iload_n dX11_where_10 rfl rfl ?_
    refine j_iconst dX11_where_11 (inr_d rfl) ?_
    refine j_ldc (v := 100000) dX11_where_12 cst_RX11_238 (inr_d rfl) ?_
    refine j_callSi (mX11_in (kl K) (kD K) (kad K) (kcA K) a2 0 100000 s2) cw_RX11_125 ⟨rfl, rfl, by decide, by decide⟩ rfl rfl (Nat.le_of_ble_eq_true rfl) dX11_where_14 (fun r3 s4 => ?_)
    refine j_if_ne (tgt := 22) dX11_where_17 rfl ?_ ?_
    · refine j_aload_n dX11_where_22 rfl rfl ?_
      refine j_getI fl_RX11_191 sh_100 rfl dX11_where_23 ?_
      refine j_if_ne (tgt := 32) dX11_where_26 rfl ?_ ?_
      · refine j_iconst dX11_where_32 (inr_d rfl) ?_
        refine j_istore_nE (ls2 := [some (.inr (.inr 100)), some (.inl a1), some (.inl a2), some (.inl 0), none]) dX11_where_33 rfl (by decide) rfl rfl ?_
        refine j_iconst dX11_where_34 (inr_d rfl) ?_
        refine j_istoreE (ls2 := [some (.inr (.inr 100)), some (.inl a1), some (.inl a2), some (.inl 0), some (.inl 0)]) dX11_where_35 (by decide) rfl rfl ?_
        refine j_msk [true, true, true, true, true] (jLX11_where_37 hq _ _ _ (fun s16 => ?_) _ _ _ _)
        refine j_bipush (v := (-4)) dX11_where_124 (by decide +kernel) (inr_d rfl) ?_
        exact j_iret hq dX11_where_126
      · refine j_bipush (v := (-2)) dX11_where_29 (by decide +kernel) (inr_d rfl) ?_
        exact j_iret hq dX11_where_31
    · refine j_iconst dX11_where_20 (inr_d rfl) ?_
      exact j_iret hq dX11_where_21
abbrev rmX11_isSpliced : Room := { frames := 0, cells := 0, slots := 0, locals := 0 }
theorem dX11_isSpliced_0 : decode cX11_isSpliced 0 = .ok (.aload_n 0, 1) := by decide +kernel
theorem dX11_isSpliced_1 : decode cX11_isSpliced 1 = .ok (.getfield 74, 3) := by decide +kernel
theorem dX11_isSpliced_4 : decode cX11_isSpliced 4 = .ok (.iload_n 1, 1) := by decide +kernel
theorem dX11_isSpliced_5 : decode cX11_isSpliced 5 = .ok (.iaload, 1) := by decide +kernel
theorem dX11_isSpliced_6 : decode cX11_isSpliced 6 = .ok (.ifCond .lt 47, 3) := by decide +kernel
theorem dX11_isSpliced_9 : decode cX11_isSpliced 9 = .ok (.aload_n 0, 1) := by decide +kernel
theorem dX11_isSpliced_10 : decode cX11_isSpliced 10 = .ok (.getfield 74, 3) := by decide +kernel
theorem dX11_isSpliced_13 : decode cX11_isSpliced 13 = .ok (.iload_n 1, 1) := by decide +kernel
theorem dX11_isSpliced_14 : decode cX11_isSpliced 14 = .ok (.iaload, 1) := by decide +kernel
theorem dX11_isSpliced_15 : decode cX11_isSpliced 15 = .ok (.aload_n 0, 1) := by decide +kernel
theorem dX11_isSpliced_16 : decode cX11_isSpliced 16 = .ok (.getfield 74, 3) := by decide +kernel
theorem dX11_isSpliced_19 : decode cX11_isSpliced 19 = .ok (.iload_n 1, 1) := by decide +kernel
theorem dX11_isSpliced_20 : decode cX11_isSpliced 20 = .ok (.iconst 1, 1) := by decide +kernel
theorem dX11_isSpliced_21 : decode cX11_isSpliced 21 = .ok (.iadd, 1) := by decide +kernel
theorem dX11_isSpliced_22 : decode cX11_isSpliced 22 = .ok (.iaload, 1) := by decide +kernel
theorem dX11_isSpliced_23 : decode cX11_isSpliced 23 = .ok (.if_icmp .ne 30, 3) := by decide +kernel
theorem dX11_isSpliced_26 : decode cX11_isSpliced 26 = .ok (.aload_n 0, 1) := by decide +kernel
theorem dX11_isSpliced_27 : decode cX11_isSpliced 27 = .ok (.getfield 77, 3) := by decide +kernel
theorem dX11_isSpliced_30 : decode cX11_isSpliced 30 = .ok (.iload_n 1, 1) := by decide +kernel
theorem dX11_isSpliced_31 : decode cX11_isSpliced 31 = .ok (.iconst 1, 1) := by decide +kernel
theorem dX11_isSpliced_32 : decode cX11_isSpliced 32 = .ok (.iadd, 1) := by decide +kernel
theorem dX11_isSpliced_33 : decode cX11_isSpliced 33 = .ok (.iaload, 1) := by decide +kernel
theorem dX11_isSpliced_34 : decode cX11_isSpliced 34 = .ok (.aload_n 0, 1) := by decide +kernel
theorem dX11_isSpliced_35 : decode cX11_isSpliced 35 = .ok (.getfield 77, 3) := by decide +kernel
theorem dX11_isSpliced_38 : decode cX11_isSpliced 38 = .ok (.iload_n 1, 1) := by decide +kernel
theorem dX11_isSpliced_39 : decode cX11_isSpliced 39 = .ok (.iaload, 1) := by decide +kernel
theorem dX11_isSpliced_40 : decode cX11_isSpliced 40 = .ok (.aload_n 0, 1) := by decide +kernel
theorem dX11_isSpliced_41 : decode cX11_isSpliced 41 = .ok (.getfield 41, 3) := by decide +kernel
theorem dX11_isSpliced_44 : decode cX11_isSpliced 44 = .ok (.bipush 16, 2) := by decide +kernel
theorem dX11_isSpliced_46 : decode cX11_isSpliced 46 = .ok (.iload_n 1, 1) := by decide +kernel
theorem dX11_isSpliced_47 : decode cX11_isSpliced 47 = .ok (.iadd, 1) := by decide +kernel
theorem dX11_isSpliced_48 : decode cX11_isSpliced 48 = .ok (.iaload, 1) := by decide +kernel
theorem dX11_isSpliced_49 : decode cX11_isSpliced 49 = .ok (.iadd, 1) := by decide +kernel
theorem dX11_isSpliced_50 : decode cX11_isSpliced 50 = .ok (.if_icmp .eq 7, 3) := by decide +kernel
theorem dX11_isSpliced_53 : decode cX11_isSpliced 53 = .ok (.iconst 1, 1) := by decide +kernel
theorem dX11_isSpliced_54 : decode cX11_isSpliced 54 = .ok (.goto 4, 3) := by decide +kernel
theorem dX11_isSpliced_57 : decode cX11_isSpliced 57 = .ok (.iconst 0, 1) := by decide +kernel
theorem dX11_isSpliced_58 : decode cX11_isSpliced 58 = .ok (.ireturn, 1) := by decide +kernel
def fX11_isSpliced (a1 : Int) (s0 : Mem) : Option Res :=
 rd (s0 119) a1 48 (fun v1 =>
 (if v1 < 0 then
 zr 1 s0
 else
 rd (s0 119) a1 48 (fun v2 =>
 rd (s0 119) (wr (a1 + 1)) 48 (fun v3 =>
 (if v2 ≠ v3 then
 zr 1 s0
 else
 rd (s0 120) (wr (a1 + 1)) 48 (fun v4 =>
 rd (s0 120) a1 48 (fun v5 =>
 rd (s0 108) (wr (16 + a1)) 64 (fun v6 =>
 (if v4 = wr (v5 + v6) then
 zr 0 s0
 else
 zr 1 s0)))))))))
set_option maxRecDepth 100000 in
set_option maxHeartbeats 4000000 in
theorem mX11_isSpliced (l : Launch) (D : va_G) (ad : Nat → Nat) (cA : Nat → ClassId) (a1 : Int) (s0 : Mem) : MCi l D ad cA yX11_isSpliced cX11_isSpliced 2 (some .boolean) rmX11_isSpliced [.inr (.inr 100), .inl a1] s0 (fX11_isSpliced a1 s0) := by
  refine MCi_ofE (own := RX11) (ls := [some (.inr (.inr 100)), some (.inl a1)]) 0 (by decide +kernel) rfl rfl (fun _ => Nat.le_of_ble_eq_true rfl) (fun K hq => ?_)
  unfold fX11_isSpliced
  refine j_aload_n dX11_isSpliced_0 rfl rfl ?_
  refine j_getR fl_RX11_74 sh_100 rfl dX11_isSpliced_1 ?_
  refine j_iload_n dX11_isSpliced_4 rfl rfl ?_
  refine j_iald sh_119 dX11_isSpliced_5 (fun v1 => ?_)
  refine j_if_lt (tgt := 53) dX11_isSpliced_6 rfl ?_ ?_
  · refine j_iconst dX11_isSpliced_53 (inr_d rfl) ?_
    refine j_goto (tgt := 58) dX11_isSpliced_54 rfl ?_
    exact j_zret hq dX11_isSpliced_58
  · refine j_aload_n dX11_isSpliced_9 rfl rfl ?_
    refine j_getR fl_RX11_74 sh_100 rfl dX11_isSpliced_10 ?_
    refine j_iload_n dX11_isSpliced_13 rfl rfl ?_
    refine j_iald sh_119 dX11_isSpliced_14 (fun v2 => ?_)
    refine j_aload_n dX11_isSpliced_15 rfl rfl ?_
    refine j_getR fl_RX11_74 sh_100 rfl dX11_isSpliced_16 ?_
    refine j_iload_n dX11_isSpliced_19 rfl rfl ?_
    refine j_iconst dX11_isSpliced_20 (inr_d rfl) ?_
    refine j_iadd dX11_isSpliced_21 ?_
    refine j_iald sh_119 dX11_isSpliced_22 (fun v3 => ?_)
    refine j_icmp_ne (tgt := 53) dX11_isSpliced_23 rfl ?_ ?_
    · refine j_iconst dX11_isSpliced_53 (inr_d rfl) ?_
      refine j_goto (tgt := 58) dX11_isSpliced_54 rfl ?_
      exact j_zret hq dX11_isSpliced_58
    · refine j_aload_n dX11_isSpliced_26 rfl rfl ?_
      refine j_getR fl_RX11_77 sh_100 rfl dX11_isSpliced_27 ?_
      refine j_iload_n dX11_isSpliced_30 rfl rfl ?_
      refine j_iconst dX11_isSpliced_31 (inr_d rfl) ?_
      refine j_iadd dX11_isSpliced_32 ?_
      refine j_iald sh_120 dX11_isSpliced_33 (fun v4 => ?_)
      refine j_aload_n dX11_isSpliced_34 rfl rfl ?_
      refine j_getR fl_RX11_77 sh_100 rfl dX11_isSpliced_35 ?_
      refine j_iload_n dX11_isSpliced_38 rfl rfl ?_
      refine j_iald sh_120 dX11_isSpliced_39 (fun v5 => ?_)
      refine j_aload_n dX11_isSpliced_40 rfl rfl ?_
      refine j_getR fl_RX11_41 sh_100 rfl dX11_isSpliced_41 ?_
      refine j_bipush (v := 16) dX11_isSpliced_44 (by decide +kernel) (inr_d rfl) ?_
      refine j_iload_n dX11_isSpliced_46 rfl rfl ?_
      refine j_iadd dX11_isSpliced_47 ?_
      refine j_iald sh_108 dX11_isSpliced_48 (fun v6 => ?_)
      refine j_iadd dX11_isSpliced_49 ?_
      refine j_icmp_eq (tgt := 57) dX11_isSpliced_50 rfl ?_ ?_
      · refine j_iconst dX11_isSpliced_57 (inr_d rfl) ?_
        exact j_zret hq dX11_isSpliced_58
      · refine j_iconst dX11_isSpliced_53 (inr_d rfl) ?_
        refine j_goto (tgt := 58) dX11_isSpliced_54 rfl ?_
        exact j_zret hq dX11_isSpliced_58
abbrev rmX11_openMany : Room := { frames := 1, cells := 0, slots := 0, locals := 21 }
theorem dX11_openMany_0 : decode cX11_openMany 0 = .ok (.iconst 0, 1) := by decide +kernel
theorem dX11_openMany_1 : decode cX11_openMany 1 = .ok (.istore_n 1, 1) := by decide +kernel
theorem dX11_openMany_2 : decode cX11_openMany 2 = .ok (.iconst 0, 1) := by decide +kernel
theorem dX11_openMany_3 : decode cX11_openMany 3 = .ok (.istore_n 2, 1) := by decide +kernel
theorem dX11_openMany_4 : decode cX11_openMany 4 = .ok (.aload_n 0, 1) := by decide +kernel
theorem dX11_openMany_5 : decode cX11_openMany 5 = .ok (.getfield 191, 3) := by decide +kernel
theorem dX11_openMany_8 : decode cX11_openMany 8 = .ok (.ifCond .eq 46, 3) := by decide +kernel
theorem dX11_openMany_11 : decode cX11_openMany 11 = .ok (.iload_n 2, 1) := by decide +kernel
theorem dX11_openMany_12 : decode cX11_openMany 12 = .ok (.aload_n 0, 1) := by decide +kernel
theorem dX11_openMany_13 : decode cX11_openMany 13 = .ok (.getfield 35, 3) := by decide +kernel
theorem dX11_openMany_16 : decode cX11_openMany 16 = .ok (.iconst 1, 1) := by decide +kernel
theorem dX11_openMany_17 : decode cX11_openMany 17 = .ok (.iaload, 1) := by decide +kernel
theorem dX11_openMany_18 : decode cX11_openMany 18 = .ok (.iconst 1, 1) := by decide +kernel
theorem dX11_openMany_19 : decode cX11_openMany 19 = .ok (.isub, 1) := by decide +kernel
theorem dX11_openMany_20 : decode cX11_openMany 20 = .ok (.if_icmp .ge 34, 3) := by decide +kernel
theorem dX11_openMany_23 : decode cX11_openMany 23 = .ok (.iload_n 1, 1) := by decide +kernel
theorem dX11_openMany_24 : decode cX11_openMany 24 = .ok (.aload_n 0, 1) := by decide +kernel
theorem dX11_openMany_25 : decode cX11_openMany 25 = .ok (.iload_n 2, 1) := by decide +kernel
theorem dX11_openMany_26 : decode cX11_openMany 26 = .ok (.invokevirtual 239, 3) := by decide +kernel
theorem dX11_openMany_29 : decode cX11_openMany 29 = .ok (.ifCond .eq 16, 3) := by decide +kernel
theorem dX11_openMany_32 : decode cX11_openMany 32 = .ok (.aload_n 0, 1) := by decide +kernel
theorem dX11_openMany_33 : decode cX11_openMany 33 = .ok (.getfield 89, 3) := by decide +kernel
theorem dX11_openMany_36 : decode cX11_openMany 36 = .ok (.iload_n 2, 1) := by decide +kernel
theorem dX11_openMany_37 : decode cX11_openMany 37 = .ok (.iaload, 1) := by decide +kernel
theorem dX11_openMany_38 : decode cX11_openMany 38 = .ok (.ifCond .ne 7, 3) := by decide +kernel
theorem dX11_openMany_41 : decode cX11_openMany 41 = .ok (.iconst 1, 1) := by decide +kernel
theorem dX11_openMany_42 : decode cX11_openMany 42 = .ok (.goto 4, 3) := by decide +kernel
theorem dX11_openMany_45 : decode cX11_openMany 45 = .ok (.iconst 0, 1) := by decide +kernel
theorem dX11_openMany_46 : decode cX11_openMany 46 = .ok (.iadd, 1) := by decide +kernel
theorem dX11_openMany_47 : decode cX11_openMany 47 = .ok (.istore_n 1, 1) := by decide +kernel
theorem dX11_openMany_48 : decode cX11_openMany 48 = .ok (.iinc 2 1, 3) := by decide +kernel
theorem dX11_openMany_51 : decode cX11_openMany 51 = .ok (.goto (-47), 3) := by decide +kernel
theorem dX11_openMany_54 : decode cX11_openMany 54 = .ok (.iload_n 1, 1) := by decide +kernel
theorem dX11_openMany_55 : decode cX11_openMany 55 = .ok (.ireturn, 1) := by decide +kernel
def LX11_openMany_4 (k54 : Int → Mem → Option Res) : Nat → Int → Int → Mem → Option Res
  | 0 => fun _ _ _ => none
  | n + 1 => fun x1 x2 s => (if s 100 19 = 0 then
 k54 x1 s
 else
 rd (s 106) 1 4 (fun v1 =>
 (if wr (v1 - 1) ≤ x2 then
 k54 x1 s
 else
 bnd (fX11_isSpliced x2 s) (fun r2 s3 =>
 (if r2 = 0 then
 lt (wr (x1 + 0)) (fun v4 =>
 LX11_openMany_4 k54 n v4 (wr (x2 + 1)) s3)
 else
 rd (s3 124) x2 48 (fun v5 =>
 (if v5 ≠ 0 then
 lt (wr (x1 + 0)) (fun v6 =>
 LX11_openMany_4 k54 n v6 (wr (x2 + 1)) s3)
 else
 lt (wr (x1 + 1)) (fun v7 =>
 LX11_openMany_4 k54 n v7 (wr (x2 + 1)) s3))))))))
def fX11_openMany (s0 : Mem) : Option Res :=
 LX11_openMany_4 (fun y9 s8 =>
 some (y9, s8)) FU 0 0 s0
set_option maxRecDepth 100000 in
set_option maxHeartbeats 4000000 in
theorem jLX11_openMany_4 {K : KT} (hq : KI K (some .int)) (k54 : Int → Mem → Option Res) (hk54 : ∀ (y1 : Int) (s : Mem), J K rmX11_openMany cX11_openMany RX11 3 54 [none, some (.inl y1), none] [] s (k54 y1 s)) : ∀ (n : Nat) (x1 : Int) (x2 : Int) (s : Mem), J K rmX11_openMany cX11_openMany RX11 3 4 [some (.inr (.inr 100)), some (.inl x1), some (.inl x2)] [] s (LX11_openMany_4 k54 n x1 x2 s) := by
  intro n
  induction n with
  | zero => intros; exact J_none
  | succ n ih =>
    intro x1 x2 s
    show J K _ _ _ _ _ _ _ _ (LX11_openMany_4 k54 (n + 1) x1 x2 s)
    simp only [LX11_openMany_4]
    refine j_aload_n dX11_openMany_4 rfl rfl ?_
    refine j_getI fl_RX11_191 sh_100 rfl dX11_openMany_5 ?_
    refine j_if_eq (tgt := 54) dX11_openMany_8 rfl ?_ ?_
    · exact j_msk [false, true, false] (hk54 _ _)
    · refine j_iload_n dX11_openMany_11 rfl rfl ?_
      refine j_aload_n dX11_openMany_12 rfl rfl ?_
      refine j_getR fl_RX11_35 sh_100 rfl dX11_openMany_13 ?_
      refine j_iconst dX11_openMany_16 (inr_d rfl) ?_
      refine j_iald sh_106 dX11_openMany_17 (fun v1 => ?_)
      refine j_iconst dX11_openMany_18 (inr_d rfl) ?_
      refine j_isub dX11_openMany_19 ?_
      refine j_icmp_ge (tgt := 54) dX11_openMany_20 rfl ?_ ?_
      · exact j_msk [false, true, false] (hk54 _ _)
      · refine j_iload_n dX11_openMany_23 rfl rfl ?_
        refine j_aload_n dX11_openMany_24 rfl rfl ?_
        refine j_iload_n dX11_openMany_25 rfl rfl ?_
        refine j_callVi (mX11_isSpliced (kl K) (kD K) (kad K) (kcA K) x2 s) cw_RX11_239 sh_100 rfl ⟨rfl, rfl, by decide, by decide⟩ rfl rfl (Nat.le_of_ble_eq_true rfl) dX11_openMany_26 (fun r2 s3 => ?_)
        refine j_if_eq (tgt := 45) dX11_openMany_29 rfl ?_ ?_
        · refine j_iconst dX11_openMany_45 (inr_d rfl) ?_
          refine j_iadd dX11_openMany_46 ?_
          refine j_ltv (fun v4 => ?_)
          refine j_istore_nE (ls2 := [some (.inr (.inr 100)), some (.inl v4), some (.inl x2)]) dX11_openMany_47 rfl (by decide) rfl rfl ?_
          refine j_iincE (ls2 := [some (.inr (.inr 100)), some (.inl v4), some (.inl (wr (x2 + 1)))]) dX11_openMany_48 rfl (by decide) rfl rfl ?_
          refine j_goto (tgt := 4) dX11_openMany_51 rfl ?_
          exact j_msk [true, true, true] (ih _ _ _)
        · refine j_aload_n dX11_openMany_32 rfl rfl ?_
          refine j_getR fl_RX11_89 sh_100 rfl dX11_openMany_33 ?_
          refine j_iload_n dX11_openMany_36 rfl rfl ?_
          refine j_iald sh_124 dX11_openMany_37 (fun v5 => ?_)
          refine j_if_ne (tgt := 45) dX11_openMany_38 rfl ?_ ?_
          · refine j_iconst dX11_openMany_45 (inr_d rfl) ?_
            refine j_iadd dX11_openMany_46 ?_
            refine j_ltv (fun v6 => ?_)
            refine j_istore_nE (ls2 := [some (.inr (.inr 100)), some (.inl v6), some (.inl x2)]) dX11_openMany_47 rfl (by decide) rfl rfl ?_
            refine j_iincE (ls2 := [some (.inr (.inr 100)), some (.inl v6), some (.inl (wr (x2 + 1)))]) dX11_openMany_48 rfl (by decide) rfl rfl ?_
            refine j_goto (tgt := 4) dX11_openMany_51 rfl ?_
            exact j_msk [true, true, true] (ih _ _ _)
          · refine j_iconst dX11_openMany_41 (inr_d rfl) ?_
            refine j_goto (tgt := 46) dX11_openMany_42 rfl ?_
            refine j_iadd dX11_openMany_46 ?_
            refine j_ltv (fun v7 => ?_)
            refine j_istore_nE (ls2 := [some (.inr (.inr 100)), some (.inl v7), some (.inl x2)]) dX11_openMany_47 rfl (by decide) rfl rfl ?_
            refine j_iincE (ls2 := [some (.inr (.inr 100)), some (.inl v7), some (.inl (wr (x2 + 1)))]) dX11_openMany_48 rfl (by decide) rfl rfl ?_
            refine j_goto (tgt := 4) dX11_openMany_51 rfl ?_
            exact j_msk [true, true, true] (ih _ _ _)
set_option maxRecDepth 100000 in
set_option maxHeartbeats 4000000 in
theorem mX11_openMany (l : Launch) (D : va_G) (ad : Nat → Nat) (cA : Nat → ClassId) (s0 : Mem) : MCi l D ad cA yX11_openMany cX11_openMany 3 (some .int) rmX11_openMany [.inr (.inr 100)] s0 (fX11_openMany s0) := by
  refine MCi_ofE (own := RX11) (ls := [some (.inr (.inr 100)), none, none]) 2 (by decide +kernel) rfl rfl (fun _ => Nat.le_of_ble_eq_true rfl) (fun K hq => ?_)
  unfold fX11_openMany
  refine j_iconst dX11_openMany_0 (inr_d rfl) ?_
  refine j_istore_nE (ls2 := [some (.inr (.inr 100)), some (.inl 0), none]) dX11_openMany_1 rfl (by decide) rfl rfl ?_
  refine j_iconst dX11_openMany_2 (inr_d rfl) ?_
  refine j_istore_nE (ls2 := [some (.inr (.inr 100)), some (.inl 0), some (.inl 0)]) dX11_openMany_3 rfl (by decide) rfl rfl ?_
  refine j_msk [true, true, true] (jLX11_openMany_4 hq _ (fun y9 s8 => ?_) _ _ _ _)
  refine j_iload_n dX11_openMany_54 rfl rfl ?_
  exact j_iret hq dX11_openMany_55
abbrev rmX11_splice : Room := { frames := 1, cells := 0, slots := 0, locals := 22 }
theorem dX11_splice_0 : decode cX11_splice 0 = .ok (.iload_n 1, 1) := by decide +kernel
theorem dX11_splice_1 : decode cX11_splice 1 = .ok (.iconst 0, 1) := by decide +kernel
theorem dX11_splice_2 : decode cX11_splice 2 = .ok (.bipush 14, 2) := by decide +kernel
theorem dX11_splice_4 : decode cX11_splice 4 = .ok (.invokestatic 125, 3) := by decide +kernel
theorem dX11_splice_7 : decode cX11_splice 7 = .ok (.ifCond .ne 5, 3) := by decide +kernel
theorem dX11_splice_10 : decode cX11_splice 10 = .ok (.iconst (-1), 1) := by decide +kernel
theorem dX11_splice_11 : decode cX11_splice 11 = .ok (.ireturn, 1) := by decide +kernel
theorem dX11_splice_12 : decode cX11_splice 12 = .ok (.aload_n 0, 1) := by decide +kernel
theorem dX11_splice_13 : decode cX11_splice 13 = .ok (.getfield 191, 3) := by decide +kernel
theorem dX11_splice_16 : decode cX11_splice 16 = .ok (.ifCond .eq 15, 3) := by decide +kernel
theorem dX11_splice_19 : decode cX11_splice 19 = .ok (.iload_n 1, 1) := by decide +kernel
theorem dX11_splice_20 : decode cX11_splice 20 = .ok (.aload_n 0, 1) := by decide +kernel
theorem dX11_splice_21 : decode cX11_splice 21 = .ok (.getfield 35, 3) := by decide +kernel
theorem dX11_splice_24 : decode cX11_splice 24 = .ok (.iconst 1, 1) := by decide +kernel
theorem dX11_splice_25 : decode cX11_splice 25 = .ok (.iaload, 1) := by decide +kernel
theorem dX11_splice_26 : decode cX11_splice 26 = .ok (.iconst 1, 1) := by decide +kernel
theorem dX11_splice_27 : decode cX11_splice 27 = .ok (.isub, 1) := by decide +kernel
theorem dX11_splice_28 : decode cX11_splice 28 = .ok (.if_icmp .lt 6, 3) := by decide +kernel
theorem dX11_splice_31 : decode cX11_splice 31 = .ok (.bipush (-2), 2) := by decide +kernel
theorem dX11_splice_33 : decode cX11_splice 33 = .ok (.ireturn, 1) := by decide +kernel
theorem dX11_splice_34 : decode cX11_splice 34 = .ok (.aload_n 0, 1) := by decide +kernel
theorem dX11_splice_35 : decode cX11_splice 35 = .ok (.iload_n 1, 1) := by decide +kernel
theorem dX11_splice_36 : decode cX11_splice 36 = .ok (.invokevirtual 239, 3) := by decide +kernel
theorem dX11_splice_39 : decode cX11_splice 39 = .ok (.ifCond .eq 12, 3) := by decide +kernel
theorem dX11_splice_42 : decode cX11_splice 42 = .ok (.aload_n 0, 1) := by decide +kernel
theorem dX11_splice_43 : decode cX11_splice 43 = .ok (.getfield 89, 3) := by decide +kernel
theorem dX11_splice_46 : decode cX11_splice 46 = .ok (.iload_n 1, 1) := by decide +kernel
theorem dX11_splice_47 : decode cX11_splice 47 = .ok (.iaload, 1) := by decide +kernel
theorem dX11_splice_48 : decode cX11_splice 48 = .ok (.goto 5, 3) := by decide +kernel
theorem dX11_splice_51 : decode cX11_splice 51 = .ok (.bipush (-4), 2) := by decide +kernel
theorem dX11_splice_53 : decode cX11_splice 53 = .ok (.ireturn, 1) := by decide +kernel
def fX11_splice (a1 : Int) (s0 : Mem) : Option Res :=
 bnd (fX11_in a1 0 14 s0) (fun r1 s2 =>
 (if r1 ≠ 0 then
 (if s2 100 19 = 0 then
 some ((-2), s2)
 else
 rd (s2 106) 1 4 (fun v3 =>
 (if a1 < wr (v3 - 1) then
 bnd (fX11_isSpliced a1 s2) (fun r4 s5 =>
 (if r4 = 0 then
 some ((-4), s5)
 else
 rd (s5 124) a1 48 (fun v6 =>
 some (v6, s5))))
 else
 some ((-2), s2))))
 else
 some ((-1), s2)))
set_option maxRecDepth 100000 in
set_option maxHeartbeats 4000000 in
theorem mX11_splice (l : Launch) (D : va_G) (ad : Nat → Nat) (cA : Nat → ClassId) (a1 : Int) (s0 : Mem) : MCi l D ad cA yX11_splice cX11_splice 2 (some .int) rmX11_splice [.inr (.inr 100), .inl a1] s0 (fX11_splice a1 s0) := by
  refine MCi_ofE (own := RX11) (ls := [some (.inr (.inr 100)), some (.inl a1)]) 0 (by decide +kernel) rfl rfl (fun _ => Nat.le_of_ble_eq_true rfl) (fun K hq => ?_)
  unfold fX11_splice
  refine j_iload_n dX11_splice_0 rfl rfl ?_
  refine j_iconst dX11_splice_1 (inr_d rfl) ?_
  refine j_bipush (v := 14) dX11_splice_2 (by decide +kernel) (inr_d rfl) ?_
  refine j_callSi (mX11_in (kl K) (kD K) (kad K) (kcA K) a1 0 14 s0) cw_RX11_125 ⟨rfl, rfl, by decide, by decide⟩ rfl rfl (Nat.le_of_ble_eq_true rfl) dX11_splice_4 (fun r1 s2 => ?_)
  refine j_if_ne (tgt := 12) dX11_splice_7 rfl ?_ ?_
  · refine j_aload_n dX11_splice_12 rfl rfl ?_
    refine j_getI fl_RX11_191 sh_100 rfl dX11_splice_13 ?_
    refine j_if_eq (tgt := 31) dX11_splice_16 rfl ?_ ?_
    · refine j_bipush (v := (-2)) dX11_splice_31 (by decide +kernel) (inr_d rfl) ?_
      exact j_iret hq dX11_splice_33
    · refine j_iload_n dX11_splice_19 rfl rfl ?_
      refine j_aload_n dX11_splice_20 rfl rfl ?_
      refine j_getR fl_RX11_35 sh_100 rfl dX11_splice_21 ?_
      refine j_iconst dX11_splice_24 (inr_d rfl) ?_
      refine j_iald sh_106 dX11_splice_25 (fun v3 => ?_)
      refine j_iconst dX11_splice_26 (inr_d rfl) ?_
      refine j_isub dX11_splice_27 ?_
      refine j_icmp_lt (tgt := 34) dX11_splice_28 rfl ?_ ?_
      · refine j_aload_n dX11_splice_34 rfl rfl ?_
        refine j_iload_n dX11_splice_35 rfl rfl ?_
        refine j_callVi (mX11_isSpliced (kl K) (kD K) (kad K) (kcA K) a1 s2) cw_RX11_239 sh_100 rfl ⟨rfl, rfl, by decide, by decide⟩ rfl rfl (Nat.le_of_ble_eq_true rfl) dX11_splice_36 (fun r4 s5 => ?_)
        refine j_if_eq (tgt := 51) dX11_splice_39 rfl ?_ ?_
        · refine j_bipush (v := (-4)) dX11_splice_51 (by decide +kernel) (inr_d rfl) ?_
          exact j_iret hq dX11_splice_53
        · refine j_aload_n dX11_splice_42 rfl rfl ?_
          refine j_getR fl_RX11_89 sh_100 rfl dX11_splice_43 ?_
          refine j_iload_n dX11_splice_46 rfl rfl ?_
          refine j_iald sh_124 dX11_splice_47 (fun v6 => ?_)
          refine j_goto (tgt := 53) dX11_splice_48 rfl ?_
          exact j_iret hq dX11_splice_53
      · refine j_bipush (v := (-2)) dX11_splice_31 (by decide +kernel) (inr_d rfl) ?_
        exact j_iret hq dX11_splice_33
  · refine j_iconst dX11_splice_10 (inr_d rfl) ?_
    exact j_iret hq dX11_splice_11
abbrev rmX11_run : Room := { frames := 3, cells := 0, slots := 0, locals := 70 }
theorem dX11_run_0 : decode cX11_run 0 = .ok (.iload_n 1, 1) := by decide +kernel
theorem dX11_run_1 : decode cX11_run 1 = .ok (.iconst 0, 1) := by decide +kernel
theorem dX11_run_2 : decode cX11_run 2 = .ok (.iconst 1, 1) := by decide +kernel
theorem dX11_run_3 : decode cX11_run 3 = .ok (.invokestatic 125, 3) := by decide +kernel
theorem dX11_run_6 : decode cX11_run 6 = .ok (.ifCond .ne 5, 3) := by decide +kernel
theorem dX11_run_9 : decode cX11_run 9 = .ok (.iconst (-1), 1) := by decide +kernel
theorem dX11_run_10 : decode cX11_run 10 = .ok (.ireturn, 1) := by decide +kernel
theorem dX11_run_11 : decode cX11_run 11 = .ok (.aload_n 0, 1) := by decide +kernel
theorem dX11_run_12 : decode cX11_run 12 = .ok (.getfield 191, 3) := by decide +kernel
theorem dX11_run_15 : decode cX11_run 15 = .ok (.ifCond .eq 10, 3) := by decide +kernel
theorem dX11_run_18 : decode cX11_run 18 = .ok (.aload_n 0, 1) := by decide +kernel
theorem dX11_run_19 : decode cX11_run 19 = .ok (.invokevirtual 242, 3) := by decide +kernel
theorem dX11_run_22 : decode cX11_run 22 = .ok (.ifCond .le 6, 3) := by decide +kernel
theorem dX11_run_25 : decode cX11_run 25 = .ok (.bipush (-2), 2) := by decide +kernel
theorem dX11_run_27 : decode cX11_run 27 = .ok (.ireturn, 1) := by decide +kernel
theorem dX11_run_28 : decode cX11_run 28 = .ok (.aload_n 0, 1) := by decide +kernel
theorem dX11_run_29 : decode cX11_run 29 = .ok (.dup, 1) := by decide +kernel
theorem dX11_run_30 : decode cX11_run 30 = .ok (.getfield 245, 3) := by decide +kernel
theorem dX11_run_33 : decode cX11_run 33 = .ok (.iconst 1, 1) := by decide +kernel
theorem dX11_run_34 : decode cX11_run 34 = .ok (.iadd, 1) := by decide +kernel
theorem dX11_run_35 : decode cX11_run 35 = .ok (.putfield 245, 3) := by decide +kernel
theorem dX11_run_38 : decode cX11_run 38 = .ok (.iconst 0, 1) := by decide +kernel
theorem dX11_run_39 : decode cX11_run 39 = .ok (.istore_n 2, 1) := by decide +kernel
theorem dX11_run_40 : decode cX11_run 40 = .ok (.iconst 0, 1) := by decide +kernel
theorem dX11_run_41 : decode cX11_run 41 = .ok (.istore_n 3, 1) := by decide +kernel
theorem dX11_run_42 : decode cX11_run 42 = .ok (.iconst 1, 1) := by decide +kernel
theorem dX11_run_43 : decode cX11_run 43 = .ok (.istore 4, 2) := by decide +kernel
theorem dX11_run_45 : decode cX11_run 45 = .ok (.iload 4, 2) := by decide +kernel
theorem dX11_run_47 : decode cX11_run 47 = .ok (.ifCond .eq 165, 3) := by decide +kernel
theorem dX11_run_50 : decode cX11_run 50 = .ok (.iload_n 2, 1) := by decide +kernel
theorem dX11_run_51 : decode cX11_run 51 = .ok (.aload_n 0, 1) := by decide +kernel
theorem dX11_run_52 : decode cX11_run 52 = .ok (.getfield 41, 3) := by decide +kernel
theorem dX11_run_55 : decode cX11_run 55 = .ok (.bipush 16, 2) := by decide +kernel
theorem dX11_run_57 : decode cX11_run 57 = .ok (.iload_n 3, 1) := by decide +kernel
theorem dX11_run_58 : decode cX11_run 58 = .ok (.iadd, 1) := by decide +kernel
theorem dX11_run_59 : decode cX11_run 59 = .ok (.iaload, 1) := by decide +kernel
theorem dX11_run_60 : decode cX11_run 60 = .ok (.iadd, 1) := by decide +kernel
theorem dX11_run_61 : decode cX11_run 61 = .ok (.istore_n 2, 1) := by decide +kernel
theorem dX11_run_62 : decode cX11_run 62 = .ok (.iinc 3 1, 3) := by decide +kernel
theorem dX11_run_65 : decode cX11_run 65 = .ok (.iload_n 3, 1) := by decide +kernel
theorem dX11_run_66 : decode cX11_run 66 = .ok (.aload_n 0, 1) := by decide +kernel
theorem dX11_run_67 : decode cX11_run 67 = .ok (.getfield 35, 3) := by decide +kernel
theorem dX11_run_70 : decode cX11_run 70 = .ok (.iconst 1, 1) := by decide +kernel
theorem dX11_run_71 : decode cX11_run 71 = .ok (.iaload, 1) := by decide +kernel
theorem dX11_run_72 : decode cX11_run 72 = .ok (.if_icmp .ge 7, 3) := by decide +kernel
theorem dX11_run_75 : decode cX11_run 75 = .ok (.iconst 1, 1) := by decide +kernel
theorem dX11_run_76 : decode cX11_run 76 = .ok (.goto 4, 3) := by decide +kernel
theorem dX11_run_79 : decode cX11_run 79 = .ok (.iconst 0, 1) := by decide +kernel
theorem dX11_run_80 : decode cX11_run 80 = .ok (.istore 4, 2) := by decide +kernel
theorem dX11_run_82 : decode cX11_run 82 = .ok (.iload 4, 2) := by decide +kernel
theorem dX11_run_84 : decode cX11_run 84 = .ok (.ifCond .eq (-39), 3) := by decide +kernel
theorem dX11_run_87 : decode cX11_run 87 = .ok (.aload_n 0, 1) := by decide +kernel
theorem dX11_run_88 : decode cX11_run 88 = .ok (.iload_n 3, 1) := by decide +kernel
theorem dX11_run_89 : decode cX11_run 89 = .ok (.iconst 1, 1) := by decide +kernel
theorem dX11_run_90 : decode cX11_run 90 = .ok (.isub, 1) := by decide +kernel
theorem dX11_run_91 : decode cX11_run 91 = .ok (.invokevirtual 239, 3) := by decide +kernel
theorem dX11_run_94 : decode cX11_run 94 = .ok (.ifCond .eq (-49), 3) := by decide +kernel
theorem dX11_run_97 : decode cX11_run 97 = .ok (.iconst 0, 1) := by decide +kernel
theorem dX11_run_98 : decode cX11_run 98 = .ok (.istore 5, 2) := by decide +kernel
theorem dX11_run_100 : decode cX11_run 100 = .ok (.iconst 0, 1) := by decide +kernel
theorem dX11_run_101 : decode cX11_run 101 = .ok (.istore 6, 2) := by decide +kernel
theorem dX11_run_103 : decode cX11_run 103 = .ok (.iload 6, 2) := by decide +kernel
theorem dX11_run_105 : decode cX11_run 105 = .ok (.iconst 3, 1) := by decide +kernel
theorem dX11_run_106 : decode cX11_run 106 = .ok (.if_icmp .ge 46, 3) := by decide +kernel
theorem dX11_run_109 : decode cX11_run 109 = .ok (.iload 5, 2) := by decide +kernel
theorem dX11_run_111 : decode cX11_run 111 = .ok (.ifCond .ne 28, 3) := by decide +kernel
theorem dX11_run_114 : decode cX11_run 114 = .ok (.aload_n 0, 1) := by decide +kernel
theorem dX11_run_115 : decode cX11_run 115 = .ok (.iload_n 2, 1) := by decide +kernel
theorem dX11_run_116 : decode cX11_run 116 = .ok (.iconst 1, 1) := by decide +kernel
theorem dX11_run_117 : decode cX11_run 117 = .ok (.isub, 1) := by decide +kernel
theorem dX11_run_118 : decode cX11_run 118 = .ok (.iload 6, 2) := by decide +kernel
theorem dX11_run_120 : decode cX11_run 120 = .ok (.invokevirtual 210, 3) := by decide +kernel
theorem dX11_run_123 : decode cX11_run 123 = .ok (.aload_n 0, 1) := by decide +kernel
theorem dX11_run_124 : decode cX11_run 124 = .ok (.iload_n 2, 1) := by decide +kernel
theorem dX11_run_125 : decode cX11_run 125 = .ok (.iload 6, 2) := by decide +kernel
theorem dX11_run_127 : decode cX11_run 127 = .ok (.invokevirtual 210, 3) := by decide +kernel
theorem dX11_run_130 : decode cX11_run 130 = .ok (.isub, 1) := by decide +kernel
theorem dX11_run_131 : decode cX11_run 131 = .ok (.invokestatic 225, 3) := by decide +kernel
theorem dX11_run_134 : decode cX11_run 134 = .ok (.bipush 10, 2) := by decide +kernel
theorem dX11_run_136 : decode cX11_run 136 = .ok (.if_icmp .lt 7, 3) := by decide +kernel
theorem dX11_run_139 : decode cX11_run 139 = .ok (.iconst 1, 1) := by decide +kernel
theorem dX11_run_140 : decode cX11_run 140 = .ok (.goto 4, 3) := by decide +kernel
theorem dX11_run_143 : decode cX11_run 143 = .ok (.iconst 0, 1) := by decide +kernel
theorem dX11_run_144 : decode cX11_run 144 = .ok (.istore 5, 2) := by decide +kernel
theorem dX11_run_146 : decode cX11_run 146 = .ok (.iinc 6 1, 3) := by decide +kernel
theorem dX11_run_149 : decode cX11_run 149 = .ok (.goto (-46), 3) := by decide +kernel
theorem dX11_run_152 : decode cX11_run 152 = .ok (.aload_n 0, 1) := by decide +kernel
theorem dX11_run_153 : decode cX11_run 153 = .ok (.getfield 89, 3) := by decide +kernel
theorem dX11_run_156 : decode cX11_run 156 = .ok (.iload_n 3, 1) := by decide +kernel
theorem dX11_run_157 : decode cX11_run 157 = .ok (.iconst 1, 1) := by decide +kernel
theorem dX11_run_158 : decode cX11_run 158 = .ok (.isub, 1) := by decide +kernel
theorem dX11_run_159 : decode cX11_run 159 = .ok (.iaload, 1) := by decide +kernel
theorem dX11_run_160 : decode cX11_run 160 = .ok (.aload_n 0, 1) := by decide +kernel
theorem dX11_run_161 : decode cX11_run 161 = .ok (.getfield 32, 3) := by decide +kernel
theorem dX11_run_164 : decode cX11_run 164 = .ok (.isub, 1) := by decide +kernel
theorem dX11_run_165 : decode cX11_run 165 = .ok (.iload 5, 2) := by decide +kernel
theorem dX11_run_167 : decode cX11_run 167 = .ok (.ifCond .eq 7, 3) := by decide +kernel
theorem dX11_run_170 : decode cX11_run 170 = .ok (.iconst 2, 1) := by decide +kernel
theorem dX11_run_171 : decode cX11_run 171 = .ok (.goto 4, 3) := by decide +kernel
theorem dX11_run_174 : decode cX11_run 174 = .ok (.iconst 0, 1) := by decide +kernel
theorem dX11_run_175 : decode cX11_run 175 = .ok (.isub, 1) := by decide +kernel
theorem dX11_run_176 : decode cX11_run 176 = .ok (.istore 6, 2) := by decide +kernel
theorem dX11_run_178 : decode cX11_run 178 = .ok (.aload_n 0, 1) := by decide +kernel
theorem dX11_run_179 : decode cX11_run 179 = .ok (.getfield 89, 3) := by decide +kernel
theorem dX11_run_182 : decode cX11_run 182 = .ok (.iload_n 3, 1) := by decide +kernel
theorem dX11_run_183 : decode cX11_run 183 = .ok (.iconst 1, 1) := by decide +kernel
theorem dX11_run_184 : decode cX11_run 184 = .ok (.isub, 1) := by decide +kernel
theorem dX11_run_185 : decode cX11_run 185 = .ok (.iload 6, 2) := by decide +kernel
theorem dX11_run_187 : decode cX11_run 187 = .ok (.ifCond .ge 7, 3) := by decide +kernel
theorem dX11_run_190 : decode cX11_run 190 = .ok (.iconst 0, 1) := by decide +kernel
theorem dX11_run_191 : decode cX11_run 191 = .ok (.goto 5, 3) := by decide +kernel
theorem dX11_run_194 : decode cX11_run 194 = .ok (.iload 6, 2) := by decide +kernel
theorem dX11_run_196 : decode cX11_run 196 = .ok (.iastore, 1) := by decide +kernel
theorem dX11_run_197 : decode cX11_run 197 = .ok (.iload 6, 2) := by decide +kernel
theorem dX11_run_199 : decode cX11_run 199 = .ok (.ifCond .le 7, 3) := by decide +kernel
theorem dX11_run_202 : decode cX11_run 202 = .ok (.iconst 1, 1) := by decide +kernel
theorem dX11_run_203 : decode cX11_run 203 = .ok (.goto 4, 3) := by decide +kernel
theorem dX11_run_206 : decode cX11_run 206 = .ok (.iconst 0, 1) := by decide +kernel
theorem dX11_run_207 : decode cX11_run 207 = .ok (.istore 4, 2) := by decide +kernel
theorem dX11_run_209 : decode cX11_run 209 = .ok (.goto (-164), 3) := by decide +kernel
theorem dX11_run_212 : decode cX11_run 212 = .ok (.aload_n 0, 1) := by decide +kernel
theorem dX11_run_213 : decode cX11_run 213 = .ok (.iload_n 1, 1) := by decide +kernel
theorem dX11_run_214 : decode cX11_run 214 = .ok (.iload_n 2, 1) := by decide +kernel
theorem dX11_run_215 : decode cX11_run 215 = .ok (.bipush 15, 2) := by decide +kernel
theorem dX11_run_217 : decode cX11_run 217 = .ok (.iadd, 1) := by decide +kernel
theorem dX11_run_218 : decode cX11_run 218 = .ok (.bipush 16, 2) := by decide +kernel
theorem dX11_run_220 : decode cX11_run 220 = .ok (.idiv, 1) := by decide +kernel
theorem dX11_run_221 : decode cX11_run 221 = .ok (.invokevirtual 136, 3) := by decide +kernel
theorem dX11_run_224 : decode cX11_run 224 = .ok (.iload_n 3, 1) := by decide +kernel
theorem dX11_run_225 : decode cX11_run 225 = .ok (.ireturn, 1) := by decide +kernel
def LX11_run_103 (c1 : Int) (c2 : Int) (c3 : Int) (k152 : Int → Mem → Option Res) : Nat → Int → Int → Mem → Option Res
  | 0 => fun _ _ _ => none
  | n + 1 => fun x5 x6 s => (if 3 ≤ x6 then
 k152 x5 s
 else
 (if x5 ≠ 0 then
 LX11_run_103 c1 c2 c3 k152 n 1 (wr (x6 + 1)) s
 else
 bnd (fX11_lightOf (wr (c2 - 1)) x6 s) (fun r13 s14 =>
 bnd (fX11_lightOf c2 x6 s14) (fun r15 s16 =>
 bnd (fX11_size (wr (r13 - r15)) s16) (fun r17 s18 =>
 (if r17 < 10 then
 LX11_run_103 c1 c2 c3 k152 n 0 (wr (x6 + 1)) s18
 else
 LX11_run_103 c1 c2 c3 k152 n 1 (wr (x6 + 1)) s18))))))
def LX11_run_45 (c1 : Int) (k212 : Int → Int → Mem → Option Res) : Nat → Int → Int → Int → Mem → Option Res
  | 0 => fun _ _ _ _ => none
  | n + 1 => fun x2 x3 x4 s => (if x4 = 0 then
 k212 x2 x3 s
 else
 rd (s 108) (wr (16 + x3)) 64 (fun v6 =>
 lt (wr (x2 + v6)) (fun v7 =>
 rd (s 106) 1 4 (fun v8 =>
 jn (fun (u9 : Int) (s10 : Mem) =>
 (if u9 = 0 then
 LX11_run_45 c1 k212 n v7 (wr (x3 + 1)) u9 s10
 else
 bnd (fX11_isSpliced (wr ((wr (x3 + 1)) - 1)) s10) (fun r11 s12 =>
 (if r11 = 0 then
 LX11_run_45 c1 k212 n v7 (wr (x3 + 1)) u9 s12
 else
 LX11_run_103 c1 v7 (wr (x3 + 1)) (fun y20 s19 =>
 rd (s19 124) (wr ((wr (x3 + 1)) - 1)) 48 (fun v21 =>
 jn (fun (u22 : Int) (s23 : Mem) =>
 lt (wr ((wr (v21 - (s19 100 8))) - u22)) (fun v24 =>
 jn (fun (u25 : Int) (s26 : Mem) =>
 ST s26 124 (wr ((wr (x3 + 1)) - 1)) 48 u25 (fun s27 =>
 (if v24 ≤ 0 then
 LX11_run_45 c1 k212 n v7 (wr (x3 + 1)) 0 s27
 else
 LX11_run_45 c1 k212 n v7 (wr (x3 + 1)) 1 s27))) (fun k196 =>
 (if 0 ≤ v24 then
 k196 v24 s23
 else
 k196 0 s23)))) (fun k175 =>
 (if y20 = 0 then
 k175 0 s19
 else
 k175 2 s19)))) FU 0 0 s12)))) (fun k80 =>
 (if v8 ≤ wr (x3 + 1) then
 k80 0 s
 else
 k80 1 s))))))
def fX11_run (a1 : Int) (s0 : Mem) : Option Res :=
 bnd (fX11_in a1 0 1 s0) (fun r1 s2 =>
 (if r1 ≠ 0 then
 (if s2 100 19 = 0 then
 some ((-2), s2)
 else
 bnd (fX11_openMany s2) (fun r3 s4 =>
 (if r3 ≤ 0 then
 lt (up s4 100 32 (wr ((s4 100 32) + 1))) (fun s5 =>
 LX11_run_45 a1 (fun y29 y30 s28 =>
 bnd (fX11_go a1 (Int.tdiv (wr (y29 + 15)) 16) s28) (fun _ s32 =>
 some (y30, s32))) FU 0 0 1 s5)
 else
 some ((-2), s4))))
 else
 some ((-1), s2)))
set_option maxRecDepth 100000 in
set_option maxHeartbeats 4000000 in
theorem jLX11_run_103 {K : KT} (hq : KI K (some .int)) (c1 : Int) (c2 : Int) (c3 : Int) (k152 : Int → Mem → Option Res) (hk152 : ∀ (y5 : Int) (s : Mem), J K rmX11_run cX11_run RX11 7 152 [some (.inr (.inr 100)), some (.inl c1), some (.inl c2), some (.inl c3), none, some (.inl y5), none] [] s (k152 y5 s)) : ∀ (n : Nat) (x5 : Int) (x6 : Int) (s : Mem), J K rmX11_run cX11_run RX11 7 103 [some (.inr (.inr 100)), some (.inl c1), some (.inl c2), some (.inl c3), none, some (.inl x5), some (.inl x6)] [] s (LX11_run_103 c1 c2 c3 k152 n x5 x6 s) := by
  intro n
  induction n with
  | zero => intros; exact J_none
  | succ n ih =>
    intro x5 x6 s
    show J K _ _ _ _ _ _ _ _ (LX11_run_103 c1 c2 c3 k152 (n + 1) x5 x6 s)
    simp only [LX11_run_103]
    refine j_iload dX11_run_103 rfl ?_
    refine j_iconst dX11_run_105 (inr_d rfl) ?_
    refine j_icmp_ge (tgt := 152) dX11_run_106 rfl ?_ ?_
    · exact j_msk [true, true, true, true, false, true, false] (hk152 _ _)
    · refine j_iload dX11_run_109 rfl ?_
      refine j_if_ne (tgt := 139) dX11_run_111 rfl ?_ ?_
      · refine j_iconst dX11_run_139 (inr_d rfl) ?_
        refine j_goto (tgt := 144) dX11_run_140 rfl ?_
        refine j_istoreE (ls2 := [some (.inr (.inr 100)), some (.inl c1), some (.inl c2), some (.inl c3), none, some (.inl 1), some (.inl x6)]) dX11_run_144 (by decide) rfl rfl ?_
        refine j_iincE (ls2 := [some (.inr (.inr 100)), some (.inl c1), some (.inl c2), some (.inl c3), none, some (.inl 1), some (.inl (wr (x6 + 1)))]) dX11_run_146 rfl (by decide) rfl rfl ?_
        refine j_goto (tgt := 103) dX11_run_149 rfl ?_
        exact j_msk [true, true, true, true, false, true, true] (ih _ _ _)
      · refine j_aload_n dX11_run_114 rfl rfl ?_
        refine j_iload_n dX11_run_115 rfl rfl ?_
        refine j_iconst dX11_run_116 (inr_d rfl) ?_
        refine j_isub dX11_run_117 ?_
        refine j_iload dX11_run_118 rfl ?_
        refine j_callVi (mX11_lightOf (kl K) (kD K) (kad K) (kcA K) (wr (c2 - 1)) x6 s) cw_RX11_210 sh_100 rfl ⟨rfl, rfl, by decide, by decide⟩ rfl rfl (Nat.le_of_ble_eq_true rfl) dX11_run_120 (fun r13 s14 => ?_)
        refine j_aload_n dX11_run_123 rfl rfl ?_
        refine j_iload_n dX11_run_124 rfl rfl ?_
        refine j_iload dX11_run_125 rfl ?_
        refine j_callVi (mX11_lightOf (kl K) (kD K) (kad K) (kcA K) c2 x6 s14) cw_RX11_210 sh_100 rfl ⟨rfl, rfl, by decide, by decide⟩ rfl rfl (Nat.le_of_ble_eq_true rfl) dX11_run_127 (fun r15 s16 => ?_)
        refine j_isub dX11_run_130 ?_
        refine j_callSi (mX11_size (kl K) (kD K) (kad K) (kcA K) (wr (r13 - r15)) s16) cw_RX11_225 ⟨rfl, rfl, by decide, by decide⟩ rfl rfl (Nat.le_of_ble_eq_true rfl) dX11_run_131 (fun r17 s18 => ?_)
        refine j_bipush (v := 10) dX11_run_134 (by decide +kernel) (inr_d rfl) ?_
        refine j_icmp_lt (tgt := 143) dX11_run_136 rfl ?_ ?_
        · refine j_iconst dX11_run_143 (inr_d rfl) ?_
          refine j_istoreE (ls2 := [some (.inr (.inr 100)), some (.inl c1), some (.inl c2), some (.inl c3), none, some (.inl 0), some (.inl x6)]) dX11_run_144 (by decide) rfl rfl ?_
          refine j_iincE (ls2 := [some (.inr (.inr 100)), some (.inl c1), some (.inl c2), some (.inl c3), none, some (.inl 0), some (.inl (wr (x6 + 1)))]) dX11_run_146 rfl (by decide) rfl rfl ?_
          refine j_goto (tgt := 103) dX11_run_149 rfl ?_
          exact j_msk [true, true, true, true, false, true, true] (ih _ _ _)
        · refine j_iconst dX11_run_139 (inr_d rfl) ?_
          refine j_goto (tgt := 144) dX11_run_140 rfl ?_
          refine j_istoreE (ls2 := [some (.inr (.inr 100)), some (.inl c1), some (.inl c2), some (.inl c3), none, some (.inl 1), some (.inl x6)]) dX11_run_144 (by decide) rfl rfl ?_
          refine j_iincE (ls2 := [some (.inr (.inr 100)), some (.inl c1), some (.inl c2), some (.inl c3), none, some (.inl 1), some (.inl (wr (x6 + 1)))]) dX11_run_146 rfl (by decide) rfl rfl ?_
          refine j_goto (tgt := 103) dX11_run_149 rfl ?_
          exact j_msk [true, true, true, true, false, true, true] (ih _ _ _)
set_option maxRecDepth 100000 in
set_option maxHeartbeats 4000000 in
theorem jLX11_run_45 {K : KT} (hq : KI K (some .int)) (c1 : Int) (k212 : Int → Int → Mem → Option Res) (hk212 : ∀ (y2 : Int) (y3 : Int) (s : Mem), J K rmX11_run cX11_run RX11 7 212 [some (.inr (.inr 100)), some (.inl c1), some (.inl y2), some (.inl y3), none, none, none] [] s (k212 y2 y3 s)) : ∀ (n : Nat) (x2 : Int) (x3 : Int) (x4 : Int) (s : Mem), J K rmX11_run cX11_run RX11 7 45 [some (.inr (.inr 100)), some (.inl c1), some (.inl x2), some (.inl x3), some (.inl x4), none, none] [] s (LX11_run_45 c1 k212 n x2 x3 x4 s) := by
  intro n
  induction n with
  | zero => intros; exact J_none
  | succ n ih =>
    intro x2 x3 x4 s
    show J K _ _ _ _ _ _ _ _ (LX11_run_45 c1 k212 (n + 1) x2 x3 x4 s)
    simp only [LX11_run_45]
    refine j_iload dX11_run_45 rfl ?_
    refine j_if_eq (tgt := 212) dX11_run_47 rfl ?_ ?_
    · exact j_msk [true, true, true, true, false, false, false] (hk212 _ _ _)
    · refine j_iload_n dX11_run_50 rfl rfl ?_
      refine j_aload_n dX11_run_51 rfl rfl ?_
      refine j_getR fl_RX11_41 sh_100 rfl dX11_run_52 ?_
      refine j_bipush (v := 16) dX11_run_55 (by decide +kernel) (inr_d rfl) ?_
      refine j_iload_n dX11_run_57 rfl rfl ?_
      refine j_iadd dX11_run_58 ?_
      refine j_iald sh_108 dX11_run_59 (fun v6 => ?_)
      refine j_iadd dX11_run_60 ?_
      refine j_ltv (fun v7 => ?_)
      refine j_istore_nE (ls2 := [some (.inr (.inr 100)), some (.inl c1), some (.inl v7), some (.inl x3), some (.inl x4), none, none]) dX11_run_61 rfl (by decide) rfl rfl ?_
      refine j_iincE (ls2 := [some (.inr (.inr 100)), some (.inl c1), some (.inl v7), some (.inl (wr (x3 + 1))), some (.inl x4), none, none]) dX11_run_62 rfl (by decide) rfl rfl ?_
      refine j_iload_n dX11_run_65 rfl rfl ?_
      refine j_aload_n dX11_run_66 rfl rfl ?_
      refine j_getR fl_RX11_35 sh_100 rfl dX11_run_67 ?_
      refine j_iconst dX11_run_70 (inr_d rfl) ?_
      refine j_iald sh_106 dX11_run_71 (fun v8 => ?_)
      refine j_jn (fun k80 => ∀ (u9 : Int) (s10 : Mem), J K rmX11_run cX11_run RX11 7 80 [some (.inr (.inr 100)), some (.inl c1), some (.inl v7), some (.inl (wr (x3 + 1))), none, none, none] [.inl u9] s10 (k80 u9 s10)) (fun u9 s10 => ?_) (fun k80 hk80 => ?_)
      · refine j_istoreE (ls2 := [some (.inr (.inr 100)), some (.inl c1), some (.inl v7), some (.inl (wr (x3 + 1))), some (.inl u9), none, none]) dX11_run_80 (by decide) rfl rfl ?_
        refine j_iload dX11_run_82 rfl ?_
        refine j_if_eq (tgt := 45) dX11_run_84 rfl ?_ ?_
        · exact j_msk [true, true, true, true, true, false, false] (ih _ _ _ _)
        · refine j_aload_n dX11_run_87 rfl rfl ?_
          refine j_iload_n dX11_run_88 rfl rfl ?_
          refine j_iconst dX11_run_89 (inr_d rfl) ?_
          refine j_isub dX11_run_90 ?_
          refine j_callVi (mX11_isSpliced (kl K) (kD K) (kad K) (kcA K) (wr ((wr (x3 + 1)) - 1)) s10) cw_RX11_239 sh_100 rfl ⟨rfl, rfl, by decide, by decide⟩ rfl rfl (Nat.le_of_ble_eq_true rfl) dX11_run_91 (fun r11 s12 => ?_)
          refine j_if_eq (tgt := 45) dX11_run_94 rfl ?_ ?_
          · exact j_msk [true, true, true, true, true, false, false] (ih _ _ _ _)
          · refine j_iconst dX11_run_97 (inr_d rfl) ?_
            refine j_istoreE (ls2 := [some (.inr (.inr 100)), some (.inl c1), some (.inl v7), some (.inl (wr (x3 + 1))), some (.inl u9), some (.inl 0), none]) dX11_run_98 (by decide) rfl rfl ?_
            refine j_iconst dX11_run_100 (inr_d rfl) ?_
            refine j_istoreE (ls2 := [some (.inr (.inr 100)), some (.inl c1), some (.inl v7), some (.inl (wr (x3 + 1))), some (.inl u9), some (.inl 0), some (.inl 0)]) dX11_run_101 (by decide) rfl rfl ?_
            refine j_msk [true, true, true, true, false, true, true] (jLX11_run_103 hq _ _ _ _ (fun y20 s19 => ?_) _ _ _ _)
            refine j_aload_n dX11_run_152 rfl rfl ?_
            refine j_getR fl_RX11_89 sh_100 rfl dX11_run_153 ?_
            refine j_iload_n dX11_run_156 rfl rfl ?_
            refine j_iconst dX11_run_157 (inr_d rfl) ?_
            refine j_isub dX11_run_158 ?_
            refine j_iald sh_124 dX11_run_159 (fun v21 => ?_)
            refine j_aload_n dX11_run_160 rfl rfl ?_
            refine j_getI fl_RX11_32 sh_100 rfl dX11_run_161 ?_
            refine j_isub dX11_run_164 ?_
            refine j_iload dX11_run_165 rfl ?_
            refine j_jn (fun k175 => ∀ (u22 : Int) (s23 : Mem), J K rmX11_run cX11_run RX11 7 175 [some (.inr (.inr 100)), some (.inl c1), some (.inl v7), some (.inl (wr (x3 + 1))), none, none, none] [.inl u22, .inl (wr (v21 - (s19 100 8)))] s23 (k175 u22 s23)) (fun u22 s23 => ?_) (fun k175 hk175 => ?_)
            · refine j_isub dX11_run_175 ?_
              refine j_ltv (fun v24 => ?_)
              refine j_istoreE (ls2 := [some (.inr (.inr 100)), some (.inl c1), some (.inl v7), some (.inl (wr (x3 + 1))), none, none, some (.inl v24)]) dX11_run_176 (by decide) rfl rfl ?_
              refine j_aload_n dX11_run_178 rfl rfl ?_
              refine j_getR fl_RX11_89 sh_100 rfl dX11_run_179 ?_
              refine j_iload_n dX11_run_182 rfl rfl ?_
              refine j_iconst dX11_run_183 (inr_d rfl) ?_
              refine j_isub dX11_run_184 ?_
              refine j_iload dX11_run_185 rfl ?_
              refine j_jn (fun k196 => ∀ (u25 : Int) (s26 : Mem), J K rmX11_run cX11_run RX11 7 196 [some (.inr (.inr 100)), some (.inl c1), some (.inl v7), some (.inl (wr (x3 + 1))), none, none, some (.inl v24)] [.inl u25, .inl (wr ((wr (x3 + 1)) - 1)), .inr (.inr 124)] s26 (k196 u25 s26)) (fun u25 s26 => ?_) (fun k196 hk196 => ?_)
              · refine j_iast sh_124 dX11_run_196 (fun s27 => ?_)
                refine j_iload dX11_run_197 rfl ?_
                refine j_if_le (tgt := 206) dX11_run_199 rfl ?_ ?_
                · refine j_iconst dX11_run_206 (inr_d rfl) ?_
                  refine j_istoreE (ls2 := [some (.inr (.inr 100)), some (.inl c1), some (.inl v7), some (.inl (wr (x3 + 1))), some (.inl 0), none, some (.inl v24)]) dX11_run_207 (by decide) rfl rfl ?_
                  refine j_goto (tgt := 45) dX11_run_209 rfl ?_
                  exact j_msk [true, true, true, true, true, false, false] (ih _ _ _ _)
                · refine j_iconst dX11_run_202 (inr_d rfl) ?_
                  refine j_goto (tgt := 207) dX11_run_203 rfl ?_
                  refine j_istoreE (ls2 := [some (.inr (.inr 100)), some (.inl c1), some (.inl v7), some (.inl (wr (x3 + 1))), some (.inl 1), none, some (.inl v24)]) dX11_run_207 (by decide) rfl rfl ?_
                  refine j_goto (tgt := 45) dX11_run_209 rfl ?_
                  exact j_msk [true, true, true, true, true, false, false] (ih _ _ _ _)
              refine j_if_ge (tgt := 194) dX11_run_187 rfl ?_ ?_
              · refine j_iload dX11_run_194 rfl ?_
                exact j_msk [true, true, true, true, false, false, true] (hk196 _ _)
              · refine j_iconst dX11_run_190 (inr_d rfl) ?_
                refine j_goto (tgt := 196) dX11_run_191 rfl ?_
                exact j_msk [true, true, true, true, false, false, true] (hk196 _ _)
            refine j_if_eq (tgt := 174) dX11_run_167 rfl ?_ ?_
            · refine j_iconst dX11_run_174 (inr_d rfl) ?_
              exact j_msk [true, true, true, true, false, false, false] (hk175 _ _)
            · refine j_iconst dX11_run_170 (inr_d rfl) ?_
              refine j_goto (tgt := 175) dX11_run_171 rfl ?_
              exact j_msk [true, true, true, true, false, false, false] (hk175 _ _)
      refine j_icmp_ge (tgt := 79) dX11_run_72 rfl ?_ ?_
      · refine j_iconst dX11_run_79 (inr_d rfl) ?_
        exact j_msk [true, true, true, true, false, false, false] (hk80 _ _)
      · refine j_iconst dX11_run_75 (inr_d rfl) ?_
        refine j_goto (tgt := 80) dX11_run_76 rfl ?_
        exact j_msk [true, true, true, true, false, false, false] (hk80 _ _)
set_option maxRecDepth 100000 in
set_option maxHeartbeats 4000000 in
theorem mX11_run (l : Launch) (D : va_G) (ad : Nat → Nat) (cA : Nat → ClassId) (a1 : Int) (s0 : Mem) : MCi l D ad cA yX11_run cX11_run 7 (some .int) rmX11_run [.inr (.inr 100), .inl a1] s0 (fX11_run a1 s0) := by
  refine MCi_ofE (own := RX11) (ls := [some (.inr (.inr 100)), some (.inl a1), none, none, none, none, none]) 5 (by decide +kernel) rfl rfl (fun _ => Nat.le_of_ble_eq_true rfl) (fun K hq => ?_)
  unfold fX11_run
  refine j_iload_n dX11_run_0 rfl rfl ?_
  refine j_iconst dX11_run_1 (inr_d rfl) ?_
  refine j_iconst dX11_run_2 (inr_d rfl) ?_
  refine j_callSi (mX11_in (kl K) (kD K) (kad K) (kcA K) a1 0 1 s0) cw_RX11_125 ⟨rfl, rfl, by decide, by decide⟩ rfl rfl (Nat.le_of_ble_eq_true rfl) dX11_run_3 (fun r1 s2 => ?_)
  refine j_if_ne (tgt := 11) dX11_run_6 rfl ?_ ?_
  · refine j_aload_n dX11_run_11 rfl rfl ?_
    refine j_getI fl_RX11_191 sh_100 rfl dX11_run_12 ?_
    refine j_if_eq (tgt := 25) dX11_run_15 rfl ?_ ?_
    · refine j_bipush (v := (-2)) dX11_run_25 (by decide +kernel) (inr_d rfl) ?_
      exact j_iret hq dX11_run_27
    · refine j_aload_n dX11_run_18 rfl rfl ?_
      refine j_callVi (mX11_openMany (kl K) (kD K) (kad K) (kcA K) s2) cw_RX11_242 sh_100 rfl ⟨rfl, rfl, by decide, by decide⟩ rfl rfl (Nat.le_of_ble_eq_true rfl) dX11_run_19 (fun r3 s4 => ?_)
      refine j_if_le (tgt := 28) dX11_run_22 rfl ?_ ?_
      · refine j_aload_n dX11_run_28 rfl rfl ?_
        refine j_dup rfl dX11_run_29 ?_
        refine j_getI fl_RX11_245 sh_100 rfl dX11_run_30 ?_
        refine j_iconst dX11_run_33 (inr_d rfl) ?_
        refine j_iadd dX11_run_34 ?_
        refine j_putI fp_RX11_245 sh_100 rfl dX11_run_35 (fun s5 => ?_)
        refine j_iconst dX11_run_38 (inr_d rfl) ?_
        refine j_istore_nE (ls2 := [some (.inr (.inr 100)), some (.inl a1), some (.inl 0), none, none, none, none]) dX11_run_39 rfl (by decide) rfl rfl ?_
        refine j_iconst dX11_run_40 (inr_d rfl) ?_
        refine j_istore_nE (ls2 := [some (.inr (.inr 100)), some (.inl a1), some (.inl 0), some (.inl 0), none, none, none]) dX11_run_41 rfl (by decide) rfl rfl ?_
        refine j_iconst dX11_run_42 (inr_d rfl) ?_
        refine j_istoreE (ls2 := [some (.inr (.inr 100)), some (.inl a1), some (.inl 0), some (.inl 0), some (.inl 1), none, none]) dX11_run_43 (by decide) rfl rfl ?_
        refine j_msk [true, true, true, true, true, false, false] (jLX11_run_45 hq _ _ (fun y29 y30 s28 => ?_) _ _ _ _ _)
        refine j_aload_n dX11_run_212 rfl rfl ?_
        refine j_iload_n dX11_run_213 rfl rfl ?_
        refine j_iload_n dX11_run_214 rfl rfl ?_
        refine j_bipush (v := 15) dX11_run_215 (by decide +kernel) (inr_d rfl) ?_
        refine j_iadd dX11_run_217 ?_
        refine j_bipush (v := 16) dX11_run_218 (by decide +kernel) (inr_d rfl) ?_
        refine j_idiv_p dX11_run_220 (by decide) ?_
        refine j_callVv (mX11_go (kl K) (kD K) (kad K) (kcA K) a1 (Int.tdiv (wr (y29 + 15)) 16) s28) cw_RX11_136 sh_100 rfl ⟨rfl, rfl, by decide, by decide⟩ rfl rfl (Nat.le_of_ble_eq_true rfl) dX11_run_221 (fun _ s32 => ?_)
        refine j_iload_n dX11_run_224 rfl rfl ?_
        exact j_iret hq dX11_run_225
      · refine j_bipush (v := (-2)) dX11_run_25 (by decide +kernel) (inr_d rfl) ?_
        exact j_iret hq dX11_run_27
  · refine j_iconst dX11_run_9 (inr_d rfl) ?_
    exact j_iret hq dX11_run_10
abbrev rmX11_mend : Room := { frames := 1, cells := 0, slots := 0, locals := 21 }
theorem dX11_mend_0 : decode cX11_mend 0 = .ok (.iconst 0, 1) := by decide +kernel
theorem dX11_mend_1 : decode cX11_mend 1 = .ok (.istore_n 1, 1) := by decide +kernel
theorem dX11_mend_2 : decode cX11_mend 2 = .ok (.iconst 0, 1) := by decide +kernel
theorem dX11_mend_3 : decode cX11_mend 3 = .ok (.istore_n 2, 1) := by decide +kernel
theorem dX11_mend_4 : decode cX11_mend 4 = .ok (.aload_n 0, 1) := by decide +kernel
theorem dX11_mend_5 : decode cX11_mend 5 = .ok (.getfield 191, 3) := by decide +kernel
theorem dX11_mend_8 : decode cX11_mend 8 = .ok (.ifCond .eq 49, 3) := by decide +kernel
theorem dX11_mend_11 : decode cX11_mend 11 = .ok (.iload_n 2, 1) := by decide +kernel
theorem dX11_mend_12 : decode cX11_mend 12 = .ok (.aload_n 0, 1) := by decide +kernel
theorem dX11_mend_13 : decode cX11_mend 13 = .ok (.getfield 35, 3) := by decide +kernel
theorem dX11_mend_16 : decode cX11_mend 16 = .ok (.iconst 1, 1) := by decide +kernel
theorem dX11_mend_17 : decode cX11_mend 17 = .ok (.iaload, 1) := by decide +kernel
theorem dX11_mend_18 : decode cX11_mend 18 = .ok (.iconst 1, 1) := by decide +kernel
theorem dX11_mend_19 : decode cX11_mend 19 = .ok (.isub, 1) := by decide +kernel
theorem dX11_mend_20 : decode cX11_mend 20 = .ok (.if_icmp .ge 37, 3) := by decide +kernel
theorem dX11_mend_23 : decode cX11_mend 23 = .ok (.aload_n 0, 1) := by decide +kernel
theorem dX11_mend_24 : decode cX11_mend 24 = .ok (.iload_n 2, 1) := by decide +kernel
theorem dX11_mend_25 : decode cX11_mend 25 = .ok (.invokevirtual 239, 3) := by decide +kernel
theorem dX11_mend_28 : decode cX11_mend 28 = .ok (.ifCond .eq 23, 3) := by decide +kernel
theorem dX11_mend_31 : decode cX11_mend 31 = .ok (.aload_n 0, 1) := by decide +kernel
theorem dX11_mend_32 : decode cX11_mend 32 = .ok (.getfield 89, 3) := by decide +kernel
theorem dX11_mend_35 : decode cX11_mend 35 = .ok (.iload_n 2, 1) := by decide +kernel
theorem dX11_mend_36 : decode cX11_mend 36 = .ok (.iaload, 1) := by decide +kernel
theorem dX11_mend_37 : decode cX11_mend 37 = .ok (.ifCond .ne 14, 3) := by decide +kernel
theorem dX11_mend_40 : decode cX11_mend 40 = .ok (.aload_n 0, 1) := by decide +kernel
theorem dX11_mend_41 : decode cX11_mend 41 = .ok (.getfield 89, 3) := by decide +kernel
theorem dX11_mend_44 : decode cX11_mend 44 = .ok (.iload_n 2, 1) := by decide +kernel
theorem dX11_mend_45 : decode cX11_mend 45 = .ok (.bipush 80, 2) := by decide +kernel
theorem dX11_mend_47 : decode cX11_mend 47 = .ok (.iastore, 1) := by decide +kernel
theorem dX11_mend_48 : decode cX11_mend 48 = .ok (.iinc 1 1, 3) := by decide +kernel
theorem dX11_mend_51 : decode cX11_mend 51 = .ok (.iinc 2 1, 3) := by decide +kernel
theorem dX11_mend_54 : decode cX11_mend 54 = .ok (.goto (-50), 3) := by decide +kernel
theorem dX11_mend_57 : decode cX11_mend 57 = .ok (.iload_n 1, 1) := by decide +kernel
theorem dX11_mend_58 : decode cX11_mend 58 = .ok (.ireturn, 1) := by decide +kernel
def LX11_mend_4 (k57 : Int → Mem → Option Res) : Nat → Int → Int → Mem → Option Res
  | 0 => fun _ _ _ => none
  | n + 1 => fun x1 x2 s => (if s 100 19 = 0 then
 k57 x1 s
 else
 rd (s 106) 1 4 (fun v1 =>
 (if wr (v1 - 1) ≤ x2 then
 k57 x1 s
 else
 bnd (fX11_isSpliced x2 s) (fun r2 s3 =>
 (if r2 = 0 then
 LX11_mend_4 k57 n x1 (wr (x2 + 1)) s3
 else
 rd (s3 124) x2 48 (fun v4 =>
 (if v4 ≠ 0 then
 LX11_mend_4 k57 n x1 (wr (x2 + 1)) s3
 else
 ST s3 124 x2 48 80 (fun s5 =>
 LX11_mend_4 k57 n (wr (x1 + 1)) (wr (x2 + 1)) s5))))))))
def fX11_mend (s0 : Mem) : Option Res :=
 LX11_mend_4 (fun y7 s6 =>
 some (y7, s6)) FU 0 0 s0
set_option maxRecDepth 100000 in
set_option maxHeartbeats 4000000 in
theorem jLX11_mend_4 {K : KT} (hq : KI K (some .int)) (k57 : Int → Mem → Option Res) (hk57 : ∀ (y1 : Int) (s : Mem), J K rmX11_mend cX11_mend RX11 3 57 [none, some (.inl y1), none] [] s (k57 y1 s)) : ∀ (n : Nat) (x1 : Int) (x2 : Int) (s : Mem), J K rmX11_mend cX11_mend RX11 3 4 [some (.inr (.inr 100)), some (.inl x1), some (.inl x2)] [] s (LX11_mend_4 k57 n x1 x2 s) := by
  intro n
  induction n with
  | zero => intros; exact J_none
  | succ n ih =>
    intro x1 x2 s
    show J K _ _ _ _ _ _ _ _ (LX11_mend_4 k57 (n + 1) x1 x2 s)
    simp only [LX11_mend_4]
    refine j_aload_n dX11_mend_4 rfl rfl ?_
    refine j_getI fl_RX11_191 sh_100 rfl dX11_mend_5 ?_
    refine j_if_eq (tgt := 57) dX11_mend_8 rfl ?_ ?_
    · exact j_msk [false, true, false] (hk57 _ _)
    · refine j_iload_n dX11_mend_11 rfl rfl ?_
      refine j_aload_n dX11_mend_12 rfl rfl ?_
      refine j_getR fl_RX11_35 sh_100 rfl dX11_mend_13 ?_
      refine j_iconst dX11_mend_16 (inr_d rfl) ?_
      refine j_iald sh_106 dX11_mend_17 (fun v1 => ?_)
      refine j_iconst dX11_mend_18 (inr_d rfl) ?_
      refine j_isub dX11_mend_19 ?_
      refine j_icmp_ge (tgt := 57) dX11_mend_20 rfl ?_ ?_
      · exact j_msk [false, true, false] (hk57 _ _)
      · refine j_aload_n dX11_mend_23 rfl rfl ?_
        refine j_iload_n dX11_mend_24 rfl rfl ?_
        refine j_callVi (mX11_isSpliced (kl K) (kD K) (kad K) (kcA K) x2 s) cw_RX11_239 sh_100 rfl ⟨rfl, rfl, by decide, by decide⟩ rfl rfl (Nat.le_of_ble_eq_true rfl) dX11_mend_25 (fun r2 s3 => ?_)
        refine j_if_eq (tgt := 51) dX11_mend_28 rfl ?_ ?_
        · refine j_iincE (ls2 := [some (.inr (.inr 100)), some (.inl x1), some (.inl (wr (x2 + 1)))]) dX11_mend_51 rfl (by decide) rfl rfl ?_
          refine j_goto (tgt := 4) dX11_mend_54 rfl ?_
          exact j_msk [true, true, true] (ih _ _ _)
        · refine j_aload_n dX11_mend_31 rfl rfl ?_
          refine j_getR fl_RX11_89 sh_100 rfl dX11_mend_32 ?_
          refine j_iload_n dX11_mend_35 rfl rfl ?_
          refine j_iald sh_124 dX11_mend_36 (fun v4 => ?_)
          refine j_if_ne (tgt := 51) dX11_mend_37 rfl ?_ ?_
          · refine j_iincE (ls2 := [some (.inr (.inr 100)), some (.inl x1), some (.inl (wr (x2 + 1)))]) dX11_mend_51 rfl (by decide) rfl rfl ?_
            refine j_goto (tgt := 4) dX11_mend_54 rfl ?_
            exact j_msk [true, true, true] (ih _ _ _)
          · refine j_aload_n dX11_mend_40 rfl rfl ?_
            refine j_getR fl_RX11_89 sh_100 rfl dX11_mend_41 ?_
            refine j_iload_n dX11_mend_44 rfl rfl ?_
            refine j_bipush (v := 80) dX11_mend_45 (by decide +kernel) (inr_d rfl) ?_
            refine j_iast sh_124 dX11_mend_47 (fun s5 => ?_)
            refine j_iincE (ls2 := [some (.inr (.inr 100)), some (.inl (wr (x1 + 1))), some (.inl x2)]) dX11_mend_48 rfl (by decide) rfl rfl ?_
            refine j_iincE (ls2 := [some (.inr (.inr 100)), some (.inl (wr (x1 + 1))), some (.inl (wr (x2 + 1)))]) dX11_mend_51 rfl (by decide) rfl rfl ?_
            refine j_goto (tgt := 4) dX11_mend_54 rfl ?_
            exact j_msk [true, true, true] (ih _ _ _)
set_option maxRecDepth 100000 in
set_option maxHeartbeats 4000000 in
theorem mX11_mend (l : Launch) (D : va_G) (ad : Nat → Nat) (cA : Nat → ClassId) (s0 : Mem) : MCi l D ad cA yX11_mend cX11_mend 3 (some .int) rmX11_mend [.inr (.inr 100)] s0 (fX11_mend s0) := by
  refine MCi_ofE (own := RX11) (ls := [some (.inr (.inr 100)), none, none]) 2 (by decide +kernel) rfl rfl (fun _ => Nat.le_of_ble_eq_true rfl) (fun K hq => ?_)
  unfold fX11_mend
  refine j_iconst dX11_mend_0 (inr_d rfl) ?_
  refine j_istore_nE (ls2 := [some (.inr (.inr 100)), some (.inl 0), none]) dX11_mend_1 rfl (by decide) rfl rfl ?_
  refine j_iconst dX11_mend_2 (inr_d rfl) ?_
  refine j_istore_nE (ls2 := [some (.inr (.inr 100)), some (.inl 0), some (.inl 0)]) dX11_mend_3 rfl (by decide) rfl rfl ?_
  refine j_msk [true, true, true] (jLX11_mend_4 hq _ (fun y7 s6 => ?_) _ _ _ _)
  refine j_iload_n dX11_mend_57 rfl rfl ?_
  exact j_iret hq dX11_mend_58
abbrev rmX11_order : Room := { frames := 1, cells := 0, slots := 0, locals := 22 }
theorem dX11_order_0 : decode cX11_order 0 = .ok (.iload_n 1, 1) := by decide +kernel
theorem dX11_order_1 : decode cX11_order 1 = .ok (.iconst 1, 1) := by decide +kernel
theorem dX11_order_2 : decode cX11_order 2 = .ok (.bipush 40, 2) := by decide +kernel
theorem dX11_order_4 : decode cX11_order 4 = .ok (.invokestatic 125, 3) := by decide +kernel
theorem dX11_order_7 : decode cX11_order 7 = .ok (.ifCond .eq 34, 3) := by decide +kernel
theorem dX11_order_10 : decode cX11_order 10 = .ok (.iload_n 2, 1) := by decide +kernel
theorem dX11_order_11 : decode cX11_order 11 = .ok (.iconst 0, 1) := by decide +kernel
theorem dX11_order_12 : decode cX11_order 12 = .ok (.sipush 400, 3) := by decide +kernel
theorem dX11_order_15 : decode cX11_order 15 = .ok (.invokestatic 125, 3) := by decide +kernel
theorem dX11_order_18 : decode cX11_order 18 = .ok (.ifCond .eq 23, 3) := by decide +kernel
theorem dX11_order_21 : decode cX11_order 21 = .ok (.iload_n 3, 1) := by decide +kernel
theorem dX11_order_22 : decode cX11_order 22 = .ok (.iconst 1, 1) := by decide +kernel
theorem dX11_order_23 : decode cX11_order 23 = .ok (.bipush 20, 2) := by decide +kernel
theorem dX11_order_25 : decode cX11_order 25 = .ok (.invokestatic 125, 3) := by decide +kernel
theorem dX11_order_28 : decode cX11_order 28 = .ok (.ifCond .eq 13, 3) := by decide +kernel
theorem dX11_order_31 : decode cX11_order 31 = .ok (.iload 4, 2) := by decide +kernel
theorem dX11_order_33 : decode cX11_order 33 = .ok (.iconst 0, 1) := by decide +kernel
theorem dX11_order_34 : decode cX11_order 34 = .ok (.iconst 5, 1) := by decide +kernel
theorem dX11_order_35 : decode cX11_order 35 = .ok (.invokestatic 125, 3) := by decide +kernel
theorem dX11_order_38 : decode cX11_order 38 = .ok (.ifCond .ne 5, 3) := by decide +kernel
theorem dX11_order_41 : decode cX11_order 41 = .ok (.iconst (-1), 1) := by decide +kernel
theorem dX11_order_42 : decode cX11_order 42 = .ok (.ireturn, 1) := by decide +kernel
theorem dX11_order_43 : decode cX11_order 43 = .ok (.aload_n 0, 1) := by decide +kernel
theorem dX11_order_44 : decode cX11_order 44 = .ok (.getfield 248, 3) := by decide +kernel
theorem dX11_order_47 : decode cX11_order 47 = .ok (.bipush 8, 2) := by decide +kernel
theorem dX11_order_49 : decode cX11_order 49 = .ok (.if_icmp .ne 6, 3) := by decide +kernel
theorem dX11_order_52 : decode cX11_order 52 = .ok (.bipush (-3), 2) := by decide +kernel
theorem dX11_order_54 : decode cX11_order 54 = .ok (.ireturn, 1) := by decide +kernel
theorem dX11_order_55 : decode cX11_order 55 = .ok (.aload_n 0, 1) := by decide +kernel
theorem dX11_order_56 : decode cX11_order 56 = .ok (.getfield 110, 3) := by decide +kernel
theorem dX11_order_59 : decode cX11_order 59 = .ok (.aload_n 0, 1) := by decide +kernel
theorem dX11_order_60 : decode cX11_order 60 = .ok (.getfield 248, 3) := by decide +kernel
theorem dX11_order_63 : decode cX11_order 63 = .ok (.iload_n 1, 1) := by decide +kernel
theorem dX11_order_64 : decode cX11_order 64 = .ok (.iastore, 1) := by decide +kernel
theorem dX11_order_65 : decode cX11_order 65 = .ok (.aload_n 0, 1) := by decide +kernel
theorem dX11_order_66 : decode cX11_order 66 = .ok (.getfield 113, 3) := by decide +kernel
theorem dX11_order_69 : decode cX11_order 69 = .ok (.aload_n 0, 1) := by decide +kernel
theorem dX11_order_70 : decode cX11_order 70 = .ok (.getfield 248, 3) := by decide +kernel
theorem dX11_order_73 : decode cX11_order 73 = .ok (.iload_n 2, 1) := by decide +kernel
theorem dX11_order_74 : decode cX11_order 74 = .ok (.iastore, 1) := by decide +kernel
theorem dX11_order_75 : decode cX11_order 75 = .ok (.aload_n 0, 1) := by decide +kernel
theorem dX11_order_76 : decode cX11_order 76 = .ok (.getfield 116, 3) := by decide +kernel
theorem dX11_order_79 : decode cX11_order 79 = .ok (.aload_n 0, 1) := by decide +kernel
theorem dX11_order_80 : decode cX11_order 80 = .ok (.getfield 248, 3) := by decide +kernel
theorem dX11_order_83 : decode cX11_order 83 = .ok (.iload_n 3, 1) := by decide +kernel
theorem dX11_order_84 : decode cX11_order 84 = .ok (.iastore, 1) := by decide +kernel
theorem dX11_order_85 : decode cX11_order 85 = .ok (.aload_n 0, 1) := by decide +kernel
theorem dX11_order_86 : decode cX11_order 86 = .ok (.getfield 119, 3) := by decide +kernel
theorem dX11_order_89 : decode cX11_order 89 = .ok (.aload_n 0, 1) := by decide +kernel
theorem dX11_order_90 : decode cX11_order 90 = .ok (.getfield 248, 3) := by decide +kernel
theorem dX11_order_93 : decode cX11_order 93 = .ok (.iload 4, 2) := by decide +kernel
theorem dX11_order_95 : decode cX11_order 95 = .ok (.iastore, 1) := by decide +kernel
theorem dX11_order_96 : decode cX11_order 96 = .ok (.aload_n 0, 1) := by decide +kernel
theorem dX11_order_97 : decode cX11_order 97 = .ok (.dup, 1) := by decide +kernel
theorem dX11_order_98 : decode cX11_order 98 = .ok (.getfield 248, 3) := by decide +kernel
theorem dX11_order_101 : decode cX11_order 101 = .ok (.iconst 1, 1) := by decide +kernel
theorem dX11_order_102 : decode cX11_order 102 = .ok (.iadd, 1) := by decide +kernel
theorem dX11_order_103 : decode cX11_order 103 = .ok (.putfield 248, 3) := by decide +kernel
theorem dX11_order_106 : decode cX11_order 106 = .ok (.aload_n 0, 1) := by decide +kernel
theorem dX11_order_107 : decode cX11_order 107 = .ok (.getfield 248, 3) := by decide +kernel
theorem dX11_order_110 : decode cX11_order 110 = .ok (.iconst 1, 1) := by decide +kernel
theorem dX11_order_111 : decode cX11_order 111 = .ok (.isub, 1) := by decide +kernel
theorem dX11_order_112 : decode cX11_order 112 = .ok (.ireturn, 1) := by decide +kernel
def fX11_order (a1 : Int) (a2 : Int) (a3 : Int) (a4 : Int) (s0 : Mem) : Option Res :=
 bnd (fX11_in a1 1 40 s0) (fun r1 s2 =>
 (if r1 = 0 then
 some ((-1), s2)
 else
 bnd (fX11_in a2 0 400 s2) (fun r3 s4 =>
 (if r3 = 0 then
 some ((-1), s4)
 else
 bnd (fX11_in a3 1 20 s4) (fun r5 s6 =>
 (if r5 = 0 then
 some ((-1), s6)
 else
 bnd (fX11_in a4 0 5 s6) (fun r7 s8 =>
 (if r7 ≠ 0 then
 (if s8 100 42 ≠ 8 then
 ST s8 131 (s8 100 42) 8 a1 (fun s9 =>
 ST s9 132 (s9 100 42) 8 a2 (fun s10 =>
 ST s10 133 (s10 100 42) 8 a3 (fun s11 =>
 ST s11 134 (s11 100 42) 8 a4 (fun s12 =>
 lt (up s12 100 42 (wr ((s12 100 42) + 1))) (fun s13 =>
 some (wr ((s13 100 42) - 1), s13))))))
 else
 some ((-3), s8))
 else
 some ((-1), s8)))))))))
set_option maxRecDepth 100000 in
set_option maxHeartbeats 4000000 in
theorem mX11_order (l : Launch) (D : va_G) (ad : Nat → Nat) (cA : Nat → ClassId) (a1 : Int) (a2 : Int) (a3 : Int) (a4 : Int) (s0 : Mem) : MCi l D ad cA yX11_order cX11_order 5 (some .int) rmX11_order [.inr (.inr 100), .inl a1, .inl a2, .inl a3, .inl a4] s0 (fX11_order a1 a2 a3 a4 s0) := by
  refine MCi_ofE (own := RX11) (ls := [some (.inr (.inr 100)), some (.inl a1), some (.inl a2), some (.inl a3), some (.inl a4)]) 0 (by decide +kernel) rfl rfl (fun _ => Nat.le_of_ble_eq_true rfl) (fun K hq => ?_)
  unfold fX11_order
  refine j_iload_n dX11_order_0 rfl rfl ?_
  refine j_iconst dX11_order_1 (inr_d rfl) ?_
  refine j_bipush (v := 40) dX11_order_2 (by decide +kernel) (inr_d rfl) ?_
  refine j_callSi (mX11_in (kl K) (kD K) (kad K) (kcA K) a1 1 40 s0) cw_RX11_125 ⟨rfl, rfl, by decide, by decide⟩ rfl rfl (Nat.le_of_ble_eq_true rfl) dX11_order_4 (fun r1 s2 => ?_)
  refine j_if_eq (tgt := 41) dX11_order_7 rfl ?_ ?_
  · refine j_iconst dX11_order_41 (inr_d rfl) ?_
    exact j_iret hq dX11_order_42
  · refine j_iload_n dX11_order_10 rfl rfl ?_
    refine j_iconst dX11_order_11 (inr_d rfl) ?_
    refine j_sipush (v := 400) dX11_order_12 (by decide +kernel) (inr_d rfl) ?_
    refine j_callSi (mX11_in (kl K) (kD K) (kad K) (kcA K) a2 0 400 s2) cw_RX11_125 ⟨rfl, rfl, by decide, by decide⟩ rfl rfl (Nat.le_of_ble_eq_true rfl) dX11_order_15 (fun r3 s4 => ?_)
    refine j_if_eq (tgt := 41) dX11_order_18 rfl ?_ ?_
    · refine j_iconst dX11_order_41 (inr_d rfl) ?_
      exact j_iret hq dX11_order_42
    · refine j_iload_n dX11_order_21 rfl rfl ?_
      refine j_iconst dX11_order_22 (inr_d rfl) ?_
      refine j_bipush (v := 20) dX11_order_23 (by decide +kernel) (inr_d rfl) ?_
      refine j_callSi (mX11_in (kl K) (kD K) (kad K) (kcA K) a3 1 20 s4) cw_RX11_125 ⟨rfl, rfl, by decide, by decide⟩ rfl rfl (Nat.le_of_ble_eq_true rfl) dX11_order_25 (fun r5 s6 => ?_)
      refine j_if_eq (tgt := 41) dX11_order_28 rfl ?_ ?_
      · refine j_iconst dX11_order_41 (inr_d rfl) ?_
        exact j_iret hq dX11_order_42
      · refine j_iload dX11_order_31 rfl ?_
        refine j_iconst dX11_order_33 (inr_d rfl) ?_
        refine j_iconst dX11_order_34 (inr_d rfl) ?_
        refine j_callSi (mX11_in (kl K) (kD K) (kad K) (kcA K) a4 0 5 s6) cw_RX11_125 ⟨rfl, rfl, by decide, by decide⟩ rfl rfl (Nat.le_of_ble_eq_true rfl) dX11_order_35 (fun r7 s8 => ?_)
        refine j_if_ne (tgt := 43) dX11_order_38 rfl ?_ ?_
        · refine j_aload_n dX11_order_43 rfl rfl ?_
          refine j_getI fl_RX11_248 sh_100 rfl dX11_order_44 ?_
          refine j_bipush (v := 8) dX11_order_47 (by decide +kernel) (inr_d rfl) ?_
          refine j_icmp_ne (tgt := 55) dX11_order_49 rfl ?_ ?_
          · refine j_aload_n dX11_order_55 rfl rfl ?_
            refine j_getR fl_RX11_110 sh_100 rfl dX11_order_56 ?_
            refine j_aload_n dX11_order_59 rfl rfl ?_
            refine j_getI fl_RX11_248 sh_100 rfl dX11_order_60 ?_
            refine j_iload_n dX11_order_63 rfl rfl ?_
            refine j_iast sh_131 dX11_order_64 (fun s9 => ?_)
            refine j_aload_n dX11_order_65 rfl rfl ?_
            refine j_getR fl_RX11_113 sh_100 rfl dX11_order_66 ?_
            refine j_aload_n dX11_order_69 rfl rfl ?_
            refine j_getI fl_RX11_248 sh_100 rfl dX11_order_70 ?_
            refine j_iload_n dX11_order_73 rfl rfl ?_
            refine j_iast sh_132 dX11_order_74 (fun s10 => ?_)
            refine j_aload_n dX11_order_75 rfl rfl ?_
            refine j_getR fl_RX11_116 sh_100 rfl dX11_order_76 ?_
            refine j_aload_n dX11_order_79 rfl rfl ?_
            refine j_getI fl_RX11_248 sh_100 rfl dX11_order_80 ?_
            refine j_iload_n dX11_order_83 rfl rfl ?_
            refine j_iast sh_133 dX11_order_84 (fun s11 => ?_)
            refine j_aload_n dX11_order_85 rfl rfl ?_
            refine j_getR fl_RX11_119 sh_100 rfl dX11_order_86 ?_
            refine j_aload_n dX11_order_89 rfl rfl ?_
            refine j_getI fl_RX11_248 sh_100 rfl dX11_order_90 ?_
            refine j_iload dX11_order_93 rfl ?_
            refine j_iast sh_134 dX11_order_95 (fun s12 => ?_)
            refine j_aload_n dX11_order_96 rfl rfl ?_
            refine j_dup rfl dX11_order_97 ?_
            refine j_getI fl_RX11_248 sh_100 rfl dX11_order_98 ?_
            refine j_iconst dX11_order_101 (inr_d rfl) ?_
            refine j_iadd dX11_order_102 ?_
            refine j_putI fp_RX11_248 sh_100 rfl dX11_order_103 (fun s13 => ?_)
            refine j_aload_n dX11_order_106 rfl rfl ?_
            refine j_getI fl_RX11_248 sh_100 rfl dX11_order_107 ?_
            refine j_iconst dX11_order_110 (inr_d rfl) ?_
            refine j_isub dX11_order_111 ?_
            exact j_iret hq dX11_order_112
          · refine j_bipush (v := (-3)) dX11_order_52 (by decide +kernel) (inr_d rfl) ?_
            exact j_iret hq dX11_order_54
        · refine j_iconst dX11_order_41 (inr_d rfl) ?_
          exact j_iret hq dX11_order_42
