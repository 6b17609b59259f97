abbrev rmX11_isLet : Room := { frames := 1, cells := 0, slots := 0, locals := 21 }
theorem dX11_isLet_0 : decode cX11_isLet 0 = .ok (.aload_n 0, 1) := by decide +kernel
theorem dX11_isLet_1 : decode cX11_isLet 1 = .ok (.iload_n 1, 1) := by decide +kernel
theorem dX11_isLet_2 : decode cX11_isLet 2 = .ok (.invokevirtual 204, 3) := by decide +kernel
theorem dX11_isLet_5 : decode cX11_isLet 5 = .ok (.pop, 1) := by decide +kernel
theorem dX11_isLet_6 : decode cX11_isLet 6 = .ok (.bipush 16, 2) := by decide +kernel
theorem dX11_isLet_8 : decode cX11_isLet 8 = .ok (.aload_n 0, 1) := by decide +kernel
theorem dX11_isLet_9 : decode cX11_isLet 9 = .ok (.getfield 201, 3) := by decide +kernel
theorem dX11_isLet_12 : decode cX11_isLet 12 = .ok (.iadd, 1) := by decide +kernel
theorem dX11_isLet_13 : decode cX11_isLet 13 = .ok (.istore_n 2, 1) := by decide +kernel
theorem dX11_isLet_14 : decode cX11_isLet 14 = .ok (.aload_n 0, 1) := by decide +kernel
theorem dX11_isLet_15 : decode cX11_isLet 15 = .ok (.getfield 198, 3) := by decide +kernel
theorem dX11_isLet_18 : decode cX11_isLet 18 = .ok (.aload_n 0, 1) := by decide +kernel
theorem dX11_isLet_19 : decode cX11_isLet 19 = .ok (.getfield 41, 3) := by decide +kernel
theorem dX11_isLet_22 : decode cX11_isLet 22 = .ok (.iload_n 2, 1) := by decide +kernel
theorem dX11_isLet_23 : decode cX11_isLet 23 = .ok (.iaload, 1) := by decide +kernel
theorem dX11_isLet_24 : decode cX11_isLet 24 = .ok (.aload_n 0, 1) := by decide +kernel
theorem dX11_isLet_25 : decode cX11_isLet 25 = .ok (.getfield 47, 3) := by decide +kernel
theorem dX11_isLet_28 : decode cX11_isLet 28 = .ok (.iload_n 2, 1) := by decide +kernel
theorem dX11_isLet_29 : decode cX11_isLet 29 = .ok (.iaload, 1) := by decide +kernel
theorem dX11_isLet_30 : decode cX11_isLet 30 = .ok (.isub, 1) := by decide +kernel
theorem dX11_isLet_31 : decode cX11_isLet 31 = .ok (.if_icmp .lt 7, 3) := by decide +kernel
theorem dX11_isLet_34 : decode cX11_isLet 34 = .ok (.iconst 1, 1) := by decide +kernel
theorem dX11_isLet_35 : decode cX11_isLet 35 = .ok (.goto 4, 3) := by decide +kernel
theorem dX11_isLet_38 : decode cX11_isLet 38 = .ok (.iconst 0, 1) := by decide +kernel
theorem dX11_isLet_39 : decode cX11_isLet 39 = .ok (.istore_n 3, 1) := by decide +kernel
theorem dX11_isLet_40 : decode cX11_isLet 40 = .ok (.iconst 0, 1) := by decide +kernel
theorem dX11_isLet_41 : decode cX11_isLet 41 = .ok (.istore 4, 2) := by decide +kernel
theorem dX11_isLet_43 : decode cX11_isLet 43 = .ok (.iload 4, 2) := by decide +kernel
theorem dX11_isLet_45 : decode cX11_isLet 45 = .ok (.aload_n 0, 1) := by decide +kernel
theorem dX11_isLet_46 : decode cX11_isLet 46 = .ok (.getfield 53, 3) := by decide +kernel
theorem dX11_isLet_49 : decode cX11_isLet 49 = .ok (.iload_n 2, 1) := by decide +kernel
theorem dX11_isLet_50 : decode cX11_isLet 50 = .ok (.iaload, 1) := by decide +kernel
theorem dX11_isLet_51 : decode cX11_isLet 51 = .ok (.if_icmp .ge 69, 3) := by decide +kernel
theorem dX11_isLet_54 : decode cX11_isLet 54 = .ok (.bipush 64, 2) := by decide +kernel
theorem dX11_isLet_56 : decode cX11_isLet 56 = .ok (.iconst 4, 1) := by decide +kernel
theorem dX11_isLet_57 : decode cX11_isLet 57 = .ok (.aload_n 0, 1) := by decide +kernel
theorem dX11_isLet_58 : decode cX11_isLet 58 = .ok (.getfield 201, 3) := by decide +kernel
theorem dX11_isLet_61 : decode cX11_isLet 61 = .ok (.imul, 1) := by decide +kernel
theorem dX11_isLet_62 : decode cX11_isLet 62 = .ok (.iadd, 1) := by decide +kernel
theorem dX11_isLet_63 : decode cX11_isLet 63 = .ok (.iload 4, 2) := by decide +kernel
theorem dX11_isLet_65 : decode cX11_isLet 65 = .ok (.iadd, 1) := by decide +kernel
theorem dX11_isLet_66 : decode cX11_isLet 66 = .ok (.istore 5, 2) := by decide +kernel
theorem dX11_isLet_68 : decode cX11_isLet 68 = .ok (.iload_n 3, 1) := by decide +kernel
theorem dX11_isLet_69 : decode cX11_isLet 69 = .ok (.ifCond .ne 39, 3) := by decide +kernel
theorem dX11_isLet_72 : decode cX11_isLet 72 = .ok (.aload_n 0, 1) := by decide +kernel
theorem dX11_isLet_73 : decode cX11_isLet 73 = .ok (.getfield 198, 3) := by decide +kernel
theorem dX11_isLet_76 : decode cX11_isLet 76 = .ok (.aload_n 0, 1) := by decide +kernel
theorem dX11_isLet_77 : decode cX11_isLet 77 = .ok (.getfield 56, 3) := by decide +kernel
theorem dX11_isLet_80 : decode cX11_isLet 80 = .ok (.iload 5, 2) := by decide +kernel
theorem dX11_isLet_82 : decode cX11_isLet 82 = .ok (.iaload, 1) := by decide +kernel
theorem dX11_isLet_83 : decode cX11_isLet 83 = .ok (.if_icmp .eq 25, 3) := by decide +kernel
theorem dX11_isLet_86 : decode cX11_isLet 86 = .ok (.aload_n 0, 1) := by decide +kernel
theorem dX11_isLet_87 : decode cX11_isLet 87 = .ok (.getfield 198, 3) := by decide +kernel
theorem dX11_isLet_90 : decode cX11_isLet 90 = .ok (.aload_n 0, 1) := by decide +kernel
theorem dX11_isLet_91 : decode cX11_isLet 91 = .ok (.getfield 56, 3) := by decide +kernel
theorem dX11_isLet_94 : decode cX11_isLet 94 = .ok (.iload 5, 2) := by decide +kernel
theorem dX11_isLet_96 : decode cX11_isLet 96 = .ok (.iaload, 1) := by decide +kernel
theorem dX11_isLet_97 : decode cX11_isLet 97 = .ok (.aload_n 0, 1) := by decide +kernel
theorem dX11_isLet_98 : decode cX11_isLet 98 = .ok (.getfield 59, 3) := by decide +kernel
theorem dX11_isLet_101 : decode cX11_isLet 101 = .ok (.iload 5, 2) := by decide +kernel
theorem dX11_isLet_103 : decode cX11_isLet 103 = .ok (.iaload, 1) := by decide +kernel
theorem dX11_isLet_104 : decode cX11_isLet 104 = .ok (.iadd, 1) := by decide +kernel
theorem dX11_isLet_105 : decode cX11_isLet 105 = .ok (.if_icmp .ne 7, 3) := by decide +kernel
theorem dX11_isLet_108 : decode cX11_isLet 108 = .ok (.iconst 1, 1) := by decide +kernel
theorem dX11_isLet_109 : decode cX11_isLet 109 = .ok (.goto 4, 3) := by decide +kernel
theorem dX11_isLet_112 : decode cX11_isLet 112 = .ok (.iconst 0, 1) := by decide +kernel
theorem dX11_isLet_113 : decode cX11_isLet 113 = .ok (.istore_n 3, 1) := by decide +kernel
theorem dX11_isLet_114 : decode cX11_isLet 114 = .ok (.iinc 4 1, 3) := by decide +kernel
theorem dX11_isLet_117 : decode cX11_isLet 117 = .ok (.goto (-74), 3) := by decide +kernel
theorem dX11_isLet_120 : decode cX11_isLet 120 = .ok (.iconst 0, 1) := by decide +kernel
theorem dX11_isLet_121 : decode cX11_isLet 121 = .ok (.istore 4, 2) := by decide +kernel
theorem dX11_isLet_123 : decode cX11_isLet 123 = .ok (.aload_n 0, 1) := by decide +kernel
theorem dX11_isLet_124 : decode cX11_isLet 124 = .ok (.getfield 201, 3) := by decide +kernel
theorem dX11_isLet_127 : decode cX11_isLet 127 = .ok (.ifCond .le 81, 3) := by decide +kernel
theorem dX11_isLet_130 : decode cX11_isLet 130 = .ok (.aload_n 0, 1) := by decide +kernel
theorem dX11_isLet_131 : decode cX11_isLet 131 = .ok (.getfield 198, 3) := by decide +kernel
theorem dX11_isLet_134 : decode cX11_isLet 134 = .ok (.ifCond .ne 74, 3) := by decide +kernel
theorem dX11_isLet_137 : decode cX11_isLet 137 = .ok (.iload 4, 2) := by decide +kernel
theorem dX11_isLet_139 : decode cX11_isLet 139 = .ok (.aload_n 0, 1) := by decide +kernel
theorem dX11_isLet_140 : decode cX11_isLet 140 = .ok (.getfield 53, 3) := by decide +kernel
theorem dX11_isLet_143 : decode cX11_isLet 143 = .ok (.iload_n 2, 1) := by decide +kernel
theorem dX11_isLet_144 : decode cX11_isLet 144 = .ok (.iconst 1, 1) := by decide +kernel
theorem dX11_isLet_145 : decode cX11_isLet 145 = .ok (.isub, 1) := by decide +kernel
theorem dX11_isLet_146 : decode cX11_isLet 146 = .ok (.iaload, 1) := by decide +kernel
theorem dX11_isLet_147 : decode cX11_isLet 147 = .ok (.if_icmp .ge 61, 3) := by decide +kernel
theorem dX11_isLet_150 : decode cX11_isLet 150 = .ok (.bipush 64, 2) := by decide +kernel
theorem dX11_isLet_152 : decode cX11_isLet 152 = .ok (.iconst 4, 1) := by decide +kernel
theorem dX11_isLet_153 : decode cX11_isLet 153 = .ok (.aload_n 0, 1) := by decide +kernel
theorem dX11_isLet_154 : decode cX11_isLet 154 = .ok (.getfield 201, 3) := by decide +kernel
theorem dX11_isLet_157 : decode cX11_isLet 157 = .ok (.iconst 1, 1) := by decide +kernel
theorem dX11_isLet_158 : decode cX11_isLet 158 = .ok (.isub, 1) := by decide +kernel
theorem dX11_isLet_159 : decode cX11_isLet 159 = .ok (.imul, 1) := by decide +kernel
theorem dX11_isLet_160 : decode cX11_isLet 160 = .ok (.iadd, 1) := by decide +kernel
theorem dX11_isLet_161 : decode cX11_isLet 161 = .ok (.iload 4, 2) := by decide +kernel
theorem dX11_isLet_163 : decode cX11_isLet 163 = .ok (.iadd, 1) := by decide +kernel
theorem dX11_isLet_164 : decode cX11_isLet 164 = .ok (.istore 5, 2) := by decide +kernel
theorem dX11_isLet_166 : decode cX11_isLet 166 = .ok (.iload_n 3, 1) := by decide +kernel
theorem dX11_isLet_167 : decode cX11_isLet 167 = .ok (.ifCond .ne 29, 3) := by decide +kernel
theorem dX11_isLet_170 : decode cX11_isLet 170 = .ok (.aload_n 0, 1) := by decide +kernel
theorem dX11_isLet_171 : decode cX11_isLet 171 = .ok (.getfield 56, 3) := by decide +kernel
theorem dX11_isLet_174 : decode cX11_isLet 174 = .ok (.iload 5, 2) := by decide +kernel
theorem dX11_isLet_176 : decode cX11_isLet 176 = .ok (.iaload, 1) := by decide +kernel
theorem dX11_isLet_177 : decode cX11_isLet 177 = .ok (.aload_n 0, 1) := by decide +kernel
theorem dX11_isLet_178 : decode cX11_isLet 178 = .ok (.getfield 59, 3) := by decide +kernel
theorem dX11_isLet_181 : decode cX11_isLet 181 = .ok (.iload 5, 2) := by decide +kernel
theorem dX11_isLet_183 : decode cX11_isLet 183 = .ok (.iaload, 1) := by decide +kernel
theorem dX11_isLet_184 : decode cX11_isLet 184 = .ok (.iadd, 1) := by decide +kernel
theorem dX11_isLet_185 : decode cX11_isLet 185 = .ok (.aload_n 0, 1) := by decide +kernel
theorem dX11_isLet_186 : decode cX11_isLet 186 = .ok (.getfield 41, 3) := by decide +kernel
theorem dX11_isLet_189 : decode cX11_isLet 189 = .ok (.iload_n 2, 1) := by decide +kernel
theorem dX11_isLet_190 : decode cX11_isLet 190 = .ok (.iconst 1, 1) := by decide +kernel
theorem dX11_isLet_191 : decode cX11_isLet 191 = .ok (.isub, 1) := by decide +kernel
theorem dX11_isLet_192 : decode cX11_isLet 192 = .ok (.iaload, 1) := by decide +kernel
theorem dX11_isLet_193 : decode cX11_isLet 193 = .ok (.if_icmp .ne 7, 3) := by decide +kernel
theorem dX11_isLet_196 : decode cX11_isLet 196 = .ok (.iconst 1, 1) := by decide +kernel
theorem dX11_isLet_197 : decode cX11_isLet 197 = .ok (.goto 4, 3) := by decide +kernel
theorem dX11_isLet_200 : decode cX11_isLet 200 = .ok (.iconst 0, 1) := by decide +kernel
theorem dX11_isLet_201 : decode cX11_isLet 201 = .ok (.istore_n 3, 1) := by decide +kernel
theorem dX11_isLet_202 : decode cX11_isLet 202 = .ok (.iinc 4 1, 3) := by decide +kernel
theorem dX11_isLet_205 : decode cX11_isLet 205 = .ok (.goto (-82), 3) := by decide +kernel
theorem dX11_isLet_208 : decode cX11_isLet 208 = .ok (.iload_n 3, 1) := by decide +kernel
theorem dX11_isLet_209 : decode cX11_isLet 209 = .ok (.ireturn, 1) := by decide +kernel
def LX11_isLet_43 (c2 : Int) (k120 : Int → Mem → Option Res) : Nat → Int → Int → Mem → Option Res
  | 0 => fun _ _ _ => none
  | n + 1 => fun x3 x4 s => rd (s 112) c2 64 (fun v6 =>
 (if v6 ≤ x4 then
 k120 x3 s
 else
 lt (wr ((wr (64 + (wr (4 * (s 100 35))))) + x4)) (fun v7 =>
 (if x3 ≠ 0 then
 LX11_isLet_43 c2 k120 n 1 (wr (x4 + 1)) s
 else
 rd (s 113) v7 256 (fun v8 =>
 (if s 100 36 = v8 then
 LX11_isLet_43 c2 k120 n 1 (wr (x4 + 1)) s
 else
 rd (s 113) v7 256 (fun v9 =>
 rd (s 114) v7 256 (fun v10 =>
 (if s 100 36 ≠ wr (v9 + v10) then
 LX11_isLet_43 c2 k120 n 0 (wr (x4 + 1)) s
 else
 LX11_isLet_43 c2 k120 n 1 (wr (x4 + 1)) s)))))))))
def LX11_isLet_123 (c2 : Int) (k208 : Int → Mem → Option Res) : Nat → Int → Int → Mem → Option Res
  | 0 => fun _ _ _ => none
  | n + 1 => fun x3 x4 s => (if s 100 35 ≤ 0 then
 k208 x3 s
 else
 (if s 100 36 ≠ 0 then
 k208 x3 s
 else
 rd (s 112) (wr (c2 - 1)) 64 (fun v13 =>
 (if v13 ≤ x4 then
 k208 x3 s
 else
 lt (wr ((wr (64 + (wr (4 * (wr ((s 100 35) - 1)))))) + x4)) (fun v14 =>
 (if x3 ≠ 0 then
 LX11_isLet_123 c2 k208 n 1 (wr (x4 + 1)) s
 else
 rd (s 113) v14 256 (fun v15 =>
 rd (s 114) v14 256 (fun v16 =>
 rd (s 108) (wr (c2 - 1)) 64 (fun v17 =>
 (if wr (v15 + v16) ≠ v17 then
 LX11_isLet_123 c2 k208 n 0 (wr (x4 + 1)) s
 else
 LX11_isLet_123 c2 k208 n 1 (wr (x4 + 1)) s))))))))))
def fX11_isLet (a1 : Int) (s0 : Mem) : Option Res :=
 bnd (fX11_find a1 s0) (fun r1 s2 =>
 lt (wr (16 + (s2 100 35))) (fun v3 =>
 rd (s2 108) v3 64 (fun v4 =>
 rd (s2 110) v3 64 (fun v5 =>
 (if s2 100 36 < wr (v4 - v5) then
 LX11_isLet_43 v3 (fun y12 s11 =>
 LX11_isLet_123 v3 (fun y19 s18 =>
 zr y19 s18) FU y12 0 s11) FU 0 0 s2
 else
 LX11_isLet_43 v3 (fun y21 s20 =>
 LX11_isLet_123 v3 (fun y23 s22 =>
 zr y23 s22) FU y21 0 s20) FU 1 0 s2)))))
set_option maxRecDepth 100000 in
set_option maxHeartbeats 4000000 in
theorem jLX11_isLet_43 {K : KT} (hq : KI K (some .boolean)) (c2 : Int) (k120 : Int → Mem → Option Res) (hk120 : ∀ (y3 : Int) (s : Mem), J K rmX11_isLet cX11_isLet RX11 6 120 [some (.inr (.inr 100)), none, some (.inl c2), some (.inl y3), none, none] [] s (k120 y3 s)) : ∀ (n : Nat) (x3 : Int) (x4 : Int) (s : Mem), J K rmX11_isLet cX11_isLet RX11 6 43 [some (.inr (.inr 100)), none, some (.inl c2), some (.inl x3), some (.inl x4), none] [] s (LX11_isLet_43 c2 k120 n x3 x4 s) := by
  intro n
  induction n with
  | zero => intros; exact J_none
  | succ n ih =>
    intro x3 x4 s
    show J K _ _ _ _ _ _ _ _ (LX11_isLet_43 c2 k120 (n + 1) x3 x4 s)
    simp only [LX11_isLet_43]
    refine j_iload dX11_isLet_43 rfl ?_
    refine j_aload_n dX11_isLet_45 rfl rfl ?_
    refine j_getR fl_RX11_53 sh_100 rfl dX11_isLet_46 ?_
    refine j_iload_n dX11_isLet_49 rfl rfl ?_
    refine j_iald sh_112 dX11_isLet_50 (fun v6 => ?_)
    refine j_icmp_ge (tgt := 120) dX11_isLet_51 rfl ?_ ?_
    · exact j_msk [true, false, true, true, false, false] (hk120 _ _)
    · refine j_bipush (v := 64) dX11_isLet_54 (by decide +kernel) (inr_d rfl) ?_
      refine j_iconst dX11_isLet_56 (inr_d rfl) ?_
      refine j_aload_n dX11_isLet_57 rfl rfl ?_
      refine j_getI fl_RX11_201 sh_100 rfl dX11_isLet_58 ?_
      refine j_imul dX11_isLet_61 ?_
      refine j_iadd dX11_isLet_62 ?_
      refine j_iload dX11_isLet_63 rfl ?_
      refine j_iadd dX11_isLet_65 ?_
      refine j_ltv (fun v7 => ?_)
      refine j_istoreE (ls2 := [some (.inr (.inr 100)), none, some (.inl c2), some (.inl x3), some (.inl x4), some (.inl v7)]) dX11_isLet_66 (by decide) rfl rfl ?_
      refine j_iload_n dX11_isLet_68 rfl rfl ?_
      refine j_if_ne (tgt := 108) dX11_isLet_69 rfl ?_ ?_
      · refine j_iconst dX11_isLet_108 (inr_d rfl) ?_
        refine j_goto (tgt := 113) dX11_isLet_109 rfl ?_
        refine j_istore_nE (ls2 := [some (.inr (.inr 100)), none, some (.inl c2), some (.inl 1), some (.inl x4), some (.inl v7)]) dX11_isLet_113 rfl (by decide) rfl rfl ?_
        refine j_iincE (ls2 := [some (.inr (.inr 100)), none, some (.inl c2), some (.inl 1), some (.inl (wr (x4 + 1))), some (.inl v7)]) dX11_isLet_114 rfl (by decide) rfl rfl ?_
        refine j_goto (tgt := 43) dX11_isLet_117 rfl ?_
        exact j_msk [true, false, true, true, true, false] (ih _ _ _)
      · refine j_aload_n dX11_isLet_72 rfl rfl ?_
        refine j_getI fl_RX11_198 sh_100 rfl dX11_isLet_73 ?_
        refine j_aload_n dX11_isLet_76 rfl rfl ?_
        refine j_getR fl_RX11_56 sh_100 rfl dX11_isLet_77 ?_
        refine j_iload dX11_isLet_80 rfl ?_
        refine j_iald sh_113 dX11_isLet_82 (fun v8 => ?_)
        refine j_icmp_eq (tgt := 108) dX11_isLet_83 rfl ?_ ?_
        · refine j_iconst dX11_isLet_108 (inr_d rfl) ?_
          refine j_goto (tgt := 113) dX11_isLet_109 rfl ?_
          refine j_istore_nE (ls2 := [some (.inr (.inr 100)), none, some (.inl c2), some (.inl 1), some (.inl x4), some (.inl v7)]) dX11_isLet_113 rfl (by decide) rfl rfl ?_
          refine j_iincE (ls2 := [some (.inr (.inr 100)), none, some (.inl c2), some (.inl 1), some (.inl (wr (x4 + 1))), some (.inl v7)]) dX11_isLet_114 rfl (by decide) rfl rfl ?_
          refine j_goto (tgt := 43) dX11_isLet_117 rfl ?_
          exact j_msk [true, false, true, true, true, false] (ih _ _ _)
        · refine j_aload_n dX11_isLet_86 rfl rfl ?_
          refine j_getI fl_RX11_198 sh_100 rfl dX11_isLet_87 ?_
          refine j_aload_n dX11_isLet_90 rfl rfl ?_
          refine j_getR fl_RX11_56 sh_100 rfl dX11_isLet_91 ?_
          refine j_iload dX11_isLet_94 rfl ?_
          refine j_iald sh_113 dX11_isLet_96 (fun v9 => ?_)
          refine j_aload_n dX11_isLet_97 rfl rfl ?_
          refine j_getR fl_RX11_59 sh_100 rfl dX11_isLet_98 ?_
          refine j_iload dX11_isLet_101 rfl ?_
          refine j_iald sh_114 dX11_isLet_103 (fun v10 => ?_)
          refine j_iadd dX11_isLet_104 ?_
          refine j_icmp_ne (tgt := 112) dX11_isLet_105 rfl ?_ ?_
          · refine j_iconst dX11_isLet_112 (inr_d rfl) ?_
            refine j_istore_nE (ls2 := [some (.inr (.inr 100)), none, some (.inl c2), some (.inl 0), some (.inl x4), some (.inl v7)]) dX11_isLet_113 rfl (by decide) rfl rfl ?_
            refine j_iincE (ls2 := [some (.inr (.inr 100)), none, some (.inl c2), some (.inl 0), some (.inl (wr (x4 + 1))), some (.inl v7)]) dX11_isLet_114 rfl (by decide) rfl rfl ?_
            refine j_goto (tgt := 43) dX11_isLet_117 rfl ?_
            exact j_msk [true, false, true, true, true, false] (ih _ _ _)
          · refine j_iconst dX11_isLet_108 (inr_d rfl) ?_
            refine j_goto (tgt := 113) dX11_isLet_109 rfl ?_
            refine j_istore_nE (ls2 := [some (.inr (.inr 100)), none, some (.inl c2), some (.inl 1), some (.inl x4), some (.inl v7)]) dX11_isLet_113 rfl (by decide) rfl rfl ?_
            refine j_iincE (ls2 := [some (.inr (.inr 100)), none, some (.inl c2), some (.inl 1), some (.inl (wr (x4 + 1))), some (.inl v7)]) dX11_isLet_114 rfl (by decide) rfl rfl ?_
            refine j_goto (tgt := 43) dX11_isLet_117 rfl ?_
            exact j_msk [true, false, true, true, true, false] (ih _ _ _)
set_option maxRecDepth 100000 in
set_option maxHeartbeats 4000000 in
theorem jLX11_isLet_123 {K : KT} (hq : KI K (some .boolean)) (c2 : Int) (k208 : Int → Mem → Option Res) (hk208 : ∀ (y3 : Int) (s : Mem), J K rmX11_isLet cX11_isLet RX11 6 208 [none, none, none, some (.inl y3), none, none] [] s (k208 y3 s)) : ∀ (n : Nat) (x3 : Int) (x4 : Int) (s : Mem), J K rmX11_isLet cX11_isLet RX11 6 123 [some (.inr (.inr 100)), none, some (.inl c2), some (.inl x3), some (.inl x4), none] [] s (LX11_isLet_123 c2 k208 n x3 x4 s) := by
  intro n
  induction n with
  | zero => intros; exact J_none
  | succ n ih =>
    intro x3 x4 s
    show J K _ _ _ _ _ _ _ _ (LX11_isLet_123 c2 k208 (n + 1) x3 x4 s)
    simp only [LX11_isLet_123]
    refine j_aload_n dX11_isLet_123 rfl rfl ?_
    refine j_getI fl_RX11_201 sh_100 rfl dX11_isLet_124 ?_
    refine j_if_le (tgt := 208) dX11_isLet_127 rfl ?_ ?_
    · exact j_msk [false, false, false, true, false, false] (hk208 _ _)
    · refine j_aload_n dX11_isLet_130 rfl rfl ?_
      refine j_getI fl_RX11_198 sh_100 rfl dX11_isLet_131 ?_
      refine j_if_ne (tgt := 208) dX11_isLet_134 rfl ?_ ?_
      · exact j_msk [false, false, false, true, false, false] (hk208 _ _)
      · refine j_iload dX11_isLet_137 rfl ?_
        refine j_aload_n dX11_isLet_139 rfl rfl ?_
        refine j_getR fl_RX11_53 sh_100 rfl dX11_isLet_140 ?_
        refine j_iload_n dX11_isLet_143 rfl rfl ?_
        refine j_iconst dX11_isLet_144 (inr_d rfl) ?_
        refine j_isub dX11_isLet_145 ?_
        refine j_iald sh_112 dX11_isLet_146 (fun v13 => ?_)
        refine j_icmp_ge (tgt := 208) dX11_isLet_147 rfl ?_ ?_
        · exact j_msk [false, false, false, true, false, false] (hk208 _ _)
        · refine j_bipush (v := 64) dX11_isLet_150 (by decide +kernel) (inr_d rfl) ?_
          refine j_iconst dX11_isLet_152 (inr_d rfl) ?_
          refine j_aload_n dX11_isLet_153 rfl rfl ?_
          refine j_getI fl_RX11_201 sh_100 rfl dX11_isLet_154 ?_
          refine j_iconst dX11_isLet_157 (inr_d rfl) ?_
          refine j_isub dX11_isLet_158 ?_
          refine j_imul dX11_isLet_159 ?_
          refine j_iadd dX11_isLet_160 ?_
          refine j_iload dX11_isLet_161 rfl ?_
          refine j_iadd dX11_isLet_163 ?_
          refine j_ltv (fun v14 => ?_)
          refine j_istoreE (ls2 := [some (.inr (.inr 100)), none, some (.inl c2), some (.inl x3), some (.inl x4), some (.inl v14)]) dX11_isLet_164 (by decide) rfl rfl ?_
          refine j_iload_n dX11_isLet_166 rfl rfl ?_
          refine j_if_ne (tgt := 196) dX11_isLet_167 rfl ?_ ?_
          · refine j_iconst dX11_isLet_196 (inr_d rfl) ?_
            refine j_goto (tgt := 201) dX11_isLet_197 rfl ?_
            refine j_istore_nE (ls2 := [some (.inr (.inr 100)), none, some (.inl c2), some (.inl 1), some (.inl x4), some (.inl v14)]) dX11_isLet_201 rfl (by decide) rfl rfl ?_
            refine j_iincE (ls2 := [some (.inr (.inr 100)), none, some (.inl c2), some (.inl 1), some (.inl (wr (x4 + 1))), some (.inl v14)]) dX11_isLet_202 rfl (by decide) rfl rfl ?_
            refine j_goto (tgt := 123) dX11_isLet_205 rfl ?_
            exact j_msk [true, false, true, true, true, false] (ih _ _ _)
          · refine j_aload_n dX11_isLet_170 rfl rfl ?_
            refine j_getR fl_RX11_56 sh_100 rfl dX11_isLet_171 ?_
            refine j_iload dX11_isLet_174 rfl ?_
            refine j_iald sh_113 dX11_isLet_176 (fun v15 => ?_)
            refine j_aload_n dX11_isLet_177 rfl rfl ?_
            refine j_getR fl_RX11_59 sh_100 rfl dX11_isLet_178 ?_
            refine j_iload dX11_isLet_181 rfl ?_
            refine j_iald sh_114 dX11_isLet_183 (fun v16 => ?_)
            refine j_iadd dX11_isLet_184 ?_
            refine j_aload_n dX11_isLet_185 rfl rfl ?_
            refine j_getR fl_RX11_41 sh_100 rfl dX11_isLet_186 ?_
            refine j_iload_n dX11_isLet_189 rfl rfl ?_
            refine j_iconst dX11_isLet_190 (inr_d rfl) ?_
            refine j_isub dX11_isLet_191 ?_
            refine j_iald sh_108 dX11_isLet_192 (fun v17 => ?_)
            refine j_icmp_ne (tgt := 200) dX11_isLet_193 rfl ?_ ?_
            · refine j_iconst dX11_isLet_200 (inr_d rfl) ?_
              refine j_istore_nE (ls2 := [some (.inr (.inr 100)), none, some (.inl c2), some (.inl 0), some (.inl x4), some (.inl v14)]) dX11_isLet_201 rfl (by decide) rfl rfl ?_
              refine j_iincE (ls2 := [some (.inr (.inr 100)), none, some (.inl c2), some (.inl 0), some (.inl (wr (x4 + 1))), some (.inl v14)]) dX11_isLet_202 rfl (by decide) rfl rfl ?_
              refine j_goto (tgt := 123) dX11_isLet_205 rfl ?_
              exact j_msk [true, false, true, true, true, false] (ih _ _ _)
            · refine j_iconst dX11_isLet_196 (inr_d rfl) ?_
              refine j_goto (tgt := 201) dX11_isLet_197 rfl ?_
              refine j_istore_nE (ls2 := [some (.inr (.inr 100)), none, some (.inl c2), some (.inl 1), some (.inl x4), some (.inl v14)]) dX11_isLet_201 rfl (by decide) rfl rfl ?_
              refine j_iincE (ls2 := [some (.inr (.inr 100)), none, some (.inl c2), some (.inl 1), some (.inl (wr (x4 + 1))), some (.inl v14)]) dX11_isLet_202 rfl (by decide) rfl rfl ?_
              refine j_goto (tgt := 123) dX11_isLet_205 rfl ?_
              exact j_msk [true, false, true, true, true, false] (ih _ _ _)
set_option maxRecDepth 100000 in
set_option maxHeartbeats 4000000 in
theorem mX11_isLet (l : Launch) (D : va_G) (ad : Nat → Nat) (cA : Nat → ClassId) (a1 : Int) (s0 : Mem) : MCi l D ad cA yX11_isLet cX11_isLet 6 (some .boolean) rmX11_isLet [.inr (.inr 100), .inl a1] s0 (fX11_isLet a1 s0) := by
  refine MCi_ofE (own := RX11) (ls := [some (.inr (.inr 100)), some (.inl a1), none, none, none, none]) 4 (by decide +kernel) rfl rfl (fun _ => Nat.le_of_ble_eq_true rfl) (fun K hq => ?_)
  unfold fX11_isLet
  refine j_aload_n dX11_isLet_0 rfl rfl ?_
  refine j_iload_n dX11_isLet_1 rfl rfl ?_
  refine j_callVi (mX11_find (kl K) (kD K) (kad K) (kcA K) a1 s0) cw_RX11_204 sh_100 rfl ⟨rfl, rfl, by decide, by decide⟩ rfl rfl (Nat.le_of_ble_eq_true rfl) dX11_isLet_2 (fun r1 s2 => ?_)
  refine j_pop dX11_isLet_5 ?_
  refine j_bipush (v := 16) dX11_isLet_6 (by decide +kernel) (inr_d rfl) ?_
  refine j_aload_n dX11_isLet_8 rfl rfl ?_
  refine j_getI fl_RX11_201 sh_100 rfl dX11_isLet_9 ?_
  refine j_iadd dX11_isLet_12 ?_
  refine j_ltv (fun v3 => ?_)
  refine j_istore_nE (ls2 := [some (.inr (.inr 100)), some (.inl a1), some (.inl v3), none, none, none]) dX11_isLet_13 rfl (by decide) rfl rfl ?_
  refine j_aload_n dX11_isLet_14 rfl rfl ?_
  refine j_getI fl_RX11_198 sh_100 rfl dX11_isLet_15 ?_
  refine j_aload_n dX11_isLet_18 rfl rfl ?_
  refine j_getR fl_RX11_41 sh_100 rfl dX11_isLet_19 ?_
  refine j_iload_n dX11_isLet_22 rfl rfl ?_
  refine j_iald sh_108 dX11_isLet_23 (fun v4 => ?_)
  refine j_aload_n dX11_isLet_24 rfl rfl ?_
  refine j_getR fl_RX11_47 sh_100 rfl dX11_isLet_25 ?_
  refine j_iload_n dX11_isLet_28 rfl rfl ?_
  refine j_iald sh_110 dX11_isLet_29 (fun v5 => ?_)
  refine j_isub dX11_isLet_30 ?_
  refine j_icmp_lt (tgt := 38) dX11_isLet_31 rfl ?_ ?_
  · refine j_iconst dX11_isLet_38 (inr_d rfl) ?_
    refine j_istore_nE (ls2 := [some (.inr (.inr 100)), some (.inl a1), some (.inl v3), some (.inl 0), none, none]) dX11_isLet_39 rfl (by decide) rfl rfl ?_
    refine j_iconst dX11_isLet_40 (inr_d rfl) ?_
    refine j_istoreE (ls2 := [some (.inr (.inr 100)), some (.inl a1), some (.inl v3), some (.inl 0), some (.inl 0), none]) dX11_isLet_41 (by decide) rfl rfl ?_
    refine j_msk [true, false, true, true, true, false] (jLX11_isLet_43 hq _ _ (fun y12 s11 => ?_) _ _ _ _)
    refine j_iconst dX11_isLet_120 (inr_d rfl) ?_
    refine j_istoreE (ls2 := [some (.inr (.inr 100)), none, some (.inl v3), some (.inl y12), some (.inl 0), none]) dX11_isLet_121 (by decide) rfl rfl ?_
    refine j_msk [true, false, true, true, true, false] (jLX11_isLet_123 hq _ _ (fun y19 s18 => ?_) _ _ _ _)
    refine j_iload_n dX11_isLet_208 rfl rfl ?_
    exact j_zret hq dX11_isLet_209
  · refine j_iconst dX11_isLet_34 (inr_d rfl) ?_
    refine j_goto (tgt := 39) dX11_isLet_35 rfl ?_
    refine j_istore_nE (ls2 := [some (.inr (.inr 100)), some (.inl a1), some (.inl v3), some (.inl 1), none, none]) dX11_isLet_39 rfl (by decide) rfl rfl ?_
    refine j_iconst dX11_isLet_40 (inr_d rfl) ?_
    refine j_istoreE (ls2 := [some (.inr (.inr 100)), some (.inl a1), some (.inl v3), some (.inl 1), some (.inl 0), none]) dX11_isLet_41 (by decide) rfl rfl ?_
    refine j_msk [true, false, true, true, true, false] (jLX11_isLet_43 hq _ _ (fun y21 s20 => ?_) _ _ _ _)
    refine j_iconst dX11_isLet_120 (inr_d rfl) ?_
    refine j_istoreE (ls2 := [some (.inr (.inr 100)), none, some (.inl v3), some (.inl y21), some (.inl 0), none]) dX11_isLet_121 (by decide) rfl rfl ?_
    refine j_msk [true, false, true, true, true, false] (jLX11_isLet_123 hq _ _ (fun y23 s22 => ?_) _ _ _ _)
    refine j_iload_n dX11_isLet_208 rfl rfl ?_
    exact j_zret hq dX11_isLet_209
abbrev rmX11_changes : Room := { frames := 3, cells := 0, slots := 0, locals := 70 }
theorem dX11_changes_0 : decode cX11_changes 0 = .ok (.iconst 0, 1) := by decide +kernel
theorem dX11_changes_1 : decode cX11_changes 1 = .ok (.istore_n 2, 1) := by decide +kernel
theorem dX11_changes_2 : decode cX11_changes 2 = .ok (.iconst 0, 1) := by decide +kernel
theorem dX11_changes_3 : decode cX11_changes 3 = .ok (.istore_n 3, 1) := by decide +kernel
theorem dX11_changes_4 : decode cX11_changes 4 = .ok (.iload_n 3, 1) := by decide +kernel
theorem dX11_changes_5 : decode cX11_changes 5 = .ok (.iconst 3, 1) := by decide +kernel
theorem dX11_changes_6 : decode cX11_changes 6 = .ok (.if_icmp .ge 36, 3) := by decide +kernel
theorem dX11_changes_9 : decode cX11_changes 9 = .ok (.iload_n 2, 1) := by decide +kernel
theorem dX11_changes_10 : decode cX11_changes 10 = .ok (.ifCond .ne 20, 3) := by decide +kernel
theorem dX11_changes_13 : decode cX11_changes 13 = .ok (.aload_n 0, 1) := by decide +kernel
theorem dX11_changes_14 : decode cX11_changes 14 = .ok (.iload_n 1, 1) := by decide +kernel
theorem dX11_changes_15 : decode cX11_changes 15 = .ok (.iload_n 3, 1) := by decide +kernel
theorem dX11_changes_16 : decode cX11_changes 16 = .ok (.invokevirtual 210, 3) := by decide +kernel
theorem dX11_changes_19 : decode cX11_changes 19 = .ok (.aload_n 0, 1) := by decide +kernel
theorem dX11_changes_20 : decode cX11_changes 20 = .ok (.iload_n 1, 1) := by decide +kernel
theorem dX11_changes_21 : decode cX11_changes 21 = .ok (.iconst 1, 1) := by decide +kernel
theorem dX11_changes_22 : decode cX11_changes 22 = .ok (.isub, 1) := by decide +kernel
theorem dX11_changes_23 : decode cX11_changes 23 = .ok (.iload_n 3, 1) := by decide +kernel
theorem dX11_changes_24 : decode cX11_changes 24 = .ok (.invokevirtual 210, 3) := by decide +kernel
theorem dX11_changes_27 : decode cX11_changes 27 = .ok (.if_icmp .eq 7, 3) := by decide +kernel
theorem dX11_changes_30 : decode cX11_changes 30 = .ok (.iconst 1, 1) := by decide +kernel
theorem dX11_changes_31 : decode cX11_changes 31 = .ok (.goto 4, 3) := by decide +kernel
theorem dX11_changes_34 : decode cX11_changes 34 = .ok (.iconst 0, 1) := by decide +kernel
theorem dX11_changes_35 : decode cX11_changes 35 = .ok (.istore_n 2, 1) := by decide +kernel
theorem dX11_changes_36 : decode cX11_changes 36 = .ok (.iinc 3 1, 3) := by decide +kernel
theorem dX11_changes_39 : decode cX11_changes 39 = .ok (.goto (-35), 3) := by decide +kernel
theorem dX11_changes_42 : decode cX11_changes 42 = .ok (.iload_n 2, 1) := by decide +kernel
theorem dX11_changes_43 : decode cX11_changes 43 = .ok (.ireturn, 1) := by decide +kernel
def LX11_changes_4 (c1 : Int) (k42 : Int → Mem → Option Res) : Nat → Int → Int → Mem → Option Res
  | 0 => fun _ _ _ => none
  | n + 1 => fun x2 x3 s => (if 3 ≤ x3 then
 k42 x2 s
 else
 (if x2 ≠ 0 then
 LX11_changes_4 c1 k42 n 1 (wr (x3 + 1)) s
 else
 bnd (fX11_lightOf c1 x3 s) (fun r1 s2 =>
 bnd (fX11_lightOf (wr (c1 - 1)) x3 s2) (fun r3 s4 =>
 (if r1 = r3 then
 LX11_changes_4 c1 k42 n 0 (wr (x3 + 1)) s4
 else
 LX11_changes_4 c1 k42 n 1 (wr (x3 + 1)) s4)))))
def fX11_changes (a1 : Int) (s0 : Mem) : Option Res :=
 LX11_changes_4 a1 (fun y6 s5 =>
 zr y6 s5) FU 0 0 s0
set_option maxRecDepth 100000 in
set_option maxHeartbeats 4000000 in
theorem jLX11_changes_4 {K : KT} (hq : KI K (some .boolean)) (c1 : Int) (k42 : Int → Mem → Option Res) (hk42 : ∀ (y2 : Int) (s : Mem), J K rmX11_changes cX11_changes RX11 4 42 [none, none, some (.inl y2), none] [] s (k42 y2 s)) : ∀ (n : Nat) (x2 : Int) (x3 : Int) (s : Mem), J K rmX11_changes cX11_changes RX11 4 4 [some (.inr (.inr 100)), some (.inl c1), some (.inl x2), some (.inl x3)] [] s (LX11_changes_4 c1 k42 n x2 x3 s) := by
  intro n
  induction n with
  | zero => intros; exact J_none
  | succ n ih =>
    intro x2 x3 s
    show J K _ _ _ _ _ _ _ _ (LX11_changes_4 c1 k42 (n + 1) x2 x3 s)
    simp only [LX11_changes_4]
    refine j_iload_n dX11_changes_4 rfl rfl ?_
    refine j_iconst dX11_changes_5 (inr_d rfl) ?_
    refine j_icmp_ge (tgt := 42) dX11_changes_6 rfl ?_ ?_
    · exact j_msk [false, false, true, false] (hk42 _ _)
    · refine j_iload_n dX11_changes_9 rfl rfl ?_
      refine j_if_ne (tgt := 30) dX11_changes_10 rfl ?_ ?_
      · refine j_iconst dX11_changes_30 (inr_d rfl) ?_
        refine j_goto (tgt := 35) dX11_changes_31 rfl ?_
        refine j_istore_nE (ls2 := [some (.inr (.inr 100)), some (.inl c1), some (.inl 1), some (.inl x3)]) dX11_changes_35 rfl (by decide) rfl rfl ?_
        refine j_iincE (ls2 := [some (.inr (.inr 100)), some (.inl c1), some (.inl 1), some (.inl (wr (x3 + 1)))]) dX11_changes_36 rfl (by decide) rfl rfl ?_
        refine j_goto (tgt := 4) dX11_changes_39 rfl ?_
        exact j_msk [true, true, true, true] (ih _ _ _)
      · refine j_aload_n dX11_changes_13 rfl rfl ?_
        refine j_iload_n dX11_changes_14 rfl rfl ?_
        refine j_iload_n dX11_changes_15 rfl rfl ?_
        refine j_callVi (mX11_lightOf (kl K) (kD K) (kad K) (kcA K) c1 x3 s) cw_RX11_210 sh_100 rfl ⟨rfl, rfl, by decide, by decide⟩ rfl rfl (Nat.le_of_ble_eq_true rfl) dX11_changes_16 (fun r1 s2 => ?_)
        refine j_aload_n dX11_changes_19 rfl rfl ?_
        refine j_iload_n dX11_changes_20 rfl rfl ?_
        refine j_iconst dX11_changes_21 (inr_d rfl) ?_
        refine j_isub dX11_changes_22 ?_
        refine j_iload_n dX11_changes_23 rfl rfl ?_
        refine j_callVi (mX11_lightOf (kl K) (kD K) (kad K) (kcA K) (wr (c1 - 1)) x3 s2) cw_RX11_210 sh_100 rfl ⟨rfl, rfl, by decide, by decide⟩ rfl rfl (Nat.le_of_ble_eq_true rfl) dX11_changes_24 (fun r3 s4 => ?_)
        refine j_icmp_eq (tgt := 34) dX11_changes_27 rfl ?_ ?_
        · refine j_iconst dX11_changes_34 (inr_d rfl) ?_
          refine j_istore_nE (ls2 := [some (.inr (.inr 100)), some (.inl c1), some (.inl 0), some (.inl x3)]) dX11_changes_35 rfl (by decide) rfl rfl ?_
          refine j_iincE (ls2 := [some (.inr (.inr 100)), some (.inl c1), some (.inl 0), some (.inl (wr (x3 + 1)))]) dX11_changes_36 rfl (by decide) rfl rfl ?_
          refine j_goto (tgt := 4) dX11_changes_39 rfl ?_
          exact j_msk [true, true, true, true] (ih _ _ _)
        · refine j_iconst dX11_changes_30 (inr_d rfl) ?_
          refine j_goto (tgt := 35) dX11_changes_31 rfl ?_
          refine j_istore_nE (ls2 := [some (.inr (.inr 100)), some (.inl c1), some (.inl 1), some (.inl x3)]) dX11_changes_35 rfl (by decide) rfl rfl ?_
          refine j_iincE (ls2 := [some (.inr (.inr 100)), some (.inl c1), some (.inl 1), some (.inl (wr (x3 + 1)))]) dX11_changes_36 rfl (by decide) rfl rfl ?_
          refine j_goto (tgt := 4) dX11_changes_39 rfl ?_
          exact j_msk [true, true, true, true] (ih _ _ _)
set_option maxRecDepth 100000 in
set_option maxHeartbeats 4000000 in
theorem mX11_changes (l : Launch) (D : va_G) (ad : Nat → Nat) (cA : Nat → ClassId) (a1 : Int) (s0 : Mem) : MCi l D ad cA yX11_changes cX11_changes 4 (some .boolean) rmX11_changes [.inr (.inr 100), .inl a1] s0 (fX11_changes a1 s0) := by
  refine MCi_ofE (own := RX11) (ls := [some (.inr (.inr 100)), some (.inl a1), none, none]) 2 (by decide +kernel) rfl rfl (fun _ => Nat.le_of_ble_eq_true rfl) (fun K hq => ?_)
  unfold fX11_changes
  refine j_iconst dX11_changes_0 (inr_d rfl) ?_
  refine j_istore_nE (ls2 := [some (.inr (.inr 100)), some (.inl a1), some (.inl 0), none]) dX11_changes_1 rfl (by decide) rfl rfl ?_
  refine j_iconst dX11_changes_2 (inr_d rfl) ?_
  refine j_istore_nE (ls2 := [some (.inr (.inr 100)), some (.inl a1), some (.inl 0), some (.inl 0)]) dX11_changes_3 rfl (by decide) rfl rfl ?_
  refine j_msk [true, true, true, true] (jLX11_changes_4 hq _ _ (fun y6 s5 => ?_) _ _ _ _)
  refine j_iload_n dX11_changes_42 rfl rfl ?_
  exact j_zret hq dX11_changes_43
abbrev rmX11_soon : Room := { frames := 4, cells := 0, slots := 0, locals := 93 }
theorem dX11_soon_0 : decode cX11_soon 0 = .ok (.iload_n 1, 1) := by decide +kernel
theorem dX11_soon_1 : decode cX11_soon 1 = .ok (.iconst (-1), 1) := by decide +kernel
theorem dX11_soon_2 : decode cX11_soon 2 = .ok (.if_icmp .ge 5, 3) := by decide +kernel
theorem dX11_soon_5 : decode cX11_soon 5 = .ok (.iconst (-1), 1) := by decide +kernel
theorem dX11_soon_6 : decode cX11_soon 6 = .ok (.ireturn, 1) := by decide +kernel
theorem dX11_soon_7 : decode cX11_soon 7 = .ok (.aload_n 0, 1) := by decide +kernel
theorem dX11_soon_8 : decode cX11_soon 8 = .ok (.getfield 191, 3) := by decide +kernel
theorem dX11_soon_11 : decode cX11_soon 11 = .ok (.ifCond .ne 6, 3) := by decide +kernel
theorem dX11_soon_14 : decode cX11_soon 14 = .ok (.bipush (-2), 2) := by decide +kernel
theorem dX11_soon_16 : decode cX11_soon 16 = .ok (.ireturn, 1) := by decide +kernel
theorem dX11_soon_17 : decode cX11_soon 17 = .ok (.iconst 0, 1) := by decide +kernel
theorem dX11_soon_18 : decode cX11_soon 18 = .ok (.istore_n 2, 1) := by decide +kernel
theorem dX11_soon_19 : decode cX11_soon 19 = .ok (.bipush (-4), 2) := by decide +kernel
theorem dX11_soon_21 : decode cX11_soon 21 = .ok (.istore_n 3, 1) := by decide +kernel
theorem dX11_soon_22 : decode cX11_soon 22 = .ok (.aload_n 0, 1) := by decide +kernel
theorem dX11_soon_23 : decode cX11_soon 23 = .ok (.invokevirtual 195, 3) := by decide +kernel
theorem dX11_soon_26 : decode cX11_soon 26 = .ok (.istore 4, 2) := by decide +kernel
theorem dX11_soon_28 : decode cX11_soon 28 = .ok (.iconst 1, 1) := by decide +kernel
theorem dX11_soon_29 : decode cX11_soon 29 = .ok (.istore 5, 2) := by decide +kernel
theorem dX11_soon_31 : decode cX11_soon 31 = .ok (.iload 5, 2) := by decide +kernel
theorem dX11_soon_33 : decode cX11_soon 33 = .ok (.iload 4, 2) := by decide +kernel
theorem dX11_soon_35 : decode cX11_soon 35 = .ok (.if_icmp .ge 58, 3) := by decide +kernel
theorem dX11_soon_38 : decode cX11_soon 38 = .ok (.aload_n 0, 1) := by decide +kernel
theorem dX11_soon_39 : decode cX11_soon 39 = .ok (.iload 5, 2) := by decide +kernel
theorem dX11_soon_41 : decode cX11_soon 41 = .ok (.invokevirtual 214, 3) := by decide +kernel
theorem dX11_soon_44 : decode cX11_soon 44 = .ok (.ifCond .eq 43, 3) := by decide +kernel
theorem dX11_soon_47 : decode cX11_soon 47 = .ok (.iload_n 3, 1) := by decide +kernel
theorem dX11_soon_48 : decode cX11_soon 48 = .ok (.bipush (-4), 2) := by decide +kernel
theorem dX11_soon_50 : decode cX11_soon 50 = .ok (.if_icmp .eq 34, 3) := by decide +kernel
theorem dX11_soon_53 : decode cX11_soon 53 = .ok (.iload 5, 2) := by decide +kernel
theorem dX11_soon_55 : decode cX11_soon 55 = .ok (.iload_n 3, 1) := by decide +kernel
theorem dX11_soon_56 : decode cX11_soon 56 = .ok (.isub, 1) := by decide +kernel
theorem dX11_soon_57 : decode cX11_soon 57 = .ok (.aload_n 0, 1) := by decide +kernel
theorem dX11_soon_58 : decode cX11_soon 58 = .ok (.getfield 25, 3) := by decide +kernel
theorem dX11_soon_61 : decode cX11_soon 61 = .ok (.if_icmp .ge 23, 3) := by decide +kernel
theorem dX11_soon_64 : decode cX11_soon 64 = .ok (.aload_n 0, 1) := by decide +kernel
theorem dX11_soon_65 : decode cX11_soon 65 = .ok (.iload 5, 2) := by decide +kernel
theorem dX11_soon_67 : decode cX11_soon 67 = .ok (.invokevirtual 217, 3) := by decide +kernel
theorem dX11_soon_70 : decode cX11_soon 70 = .ok (.ifCond .ne 14, 3) := by decide +kernel
theorem dX11_soon_73 : decode cX11_soon 73 = .ok (.iload_n 2, 1) := by decide +kernel
theorem dX11_soon_74 : decode cX11_soon 74 = .ok (.iload_n 1, 1) := by decide +kernel
theorem dX11_soon_75 : decode cX11_soon 75 = .ok (.if_icmp .ne 6, 3) := by decide +kernel
theorem dX11_soon_78 : decode cX11_soon 78 = .ok (.iload 5, 2) := by decide +kernel
theorem dX11_soon_80 : decode cX11_soon 80 = .ok (.ireturn, 1) := by decide +kernel
theorem dX11_soon_81 : decode cX11_soon 81 = .ok (.iinc 2 1, 3) := by decide +kernel
theorem dX11_soon_84 : decode cX11_soon 84 = .ok (.iload 5, 2) := by decide +kernel
theorem dX11_soon_86 : decode cX11_soon 86 = .ok (.istore_n 3, 1) := by decide +kernel
theorem dX11_soon_87 : decode cX11_soon 87 = .ok (.iinc 5 1, 3) := by decide +kernel
theorem dX11_soon_90 : decode cX11_soon 90 = .ok (.goto (-59), 3) := by decide +kernel
theorem dX11_soon_93 : decode cX11_soon 93 = .ok (.iload_n 1, 1) := by decide +kernel
theorem dX11_soon_94 : decode cX11_soon 94 = .ok (.ifCond .ge 7, 3) := by decide +kernel
theorem dX11_soon_97 : decode cX11_soon 97 = .ok (.iload_n 2, 1) := by decide +kernel
theorem dX11_soon_98 : decode cX11_soon 98 = .ok (.goto 5, 3) := by decide +kernel
theorem dX11_soon_101 : decode cX11_soon 101 = .ok (.bipush (-4), 2) := by decide +kernel
theorem dX11_soon_103 : decode cX11_soon 103 = .ok (.ireturn, 1) := by decide +kernel
def LX11_soon_31 (c1 : Int) (c4 : Int) (k93 : Int → Mem → Option Res) : Nat → Int → Int → Int → Mem → Option Res
  | 0 => fun _ _ _ _ => none
  | n + 1 => fun x2 x3 x5 s => (if c4 ≤ x5 then
 k93 x2 s
 else
 bnd (fX11_changes x5 s) (fun r3 s4 =>
 (if r3 = 0 then
 LX11_soon_31 c1 c4 k93 n x2 x3 (wr (x5 + 1)) s4
 else
 (if x3 = (-4) then
 LX11_soon_31 c1 c4 k93 n x2 x5 (wr (x5 + 1)) s4
 else
 (if s4 100 5 ≤ wr (x5 - x3) then
 LX11_soon_31 c1 c4 k93 n x2 x5 (wr (x5 + 1)) s4
 else
 bnd (fX11_isLet x5 s4) (fun r5 s6 =>
 (if r5 ≠ 0 then
 LX11_soon_31 c1 c4 k93 n x2 x5 (wr (x5 + 1)) s6
 else
 (if x2 ≠ c1 then
 LX11_soon_31 c1 c4 k93 n (wr (x2 + 1)) x5 (wr (x5 + 1)) s6
 else
 some (x5, s6)))))))))
def fX11_soon (a1 : Int) (s0 : Mem) : Option Res :=
 (if (-1) ≤ a1 then
 (if s0 100 19 ≠ 0 then
 bnd (fX11_frameMany s0) (fun r1 s2 =>
 LX11_soon_31 a1 r1 (fun y8 s7 =>
 (if 0 ≤ a1 then
 some ((-4), s7)
 else
 some (y8, s7))) FU 0 (-4) 1 s2)
 else
 some ((-2), s0))
 else
 some ((-1), s0))
set_option maxRecDepth 100000 in
set_option maxHeartbeats 4000000 in
theorem jLX11_soon_31 {K : KT} (hq : KI K (some .int)) (c1 : Int) (c4 : Int) (k93 : Int → Mem → Option Res) (hk93 : ∀ (y2 : Int) (s : Mem), J K rmX11_soon cX11_soon RX11 6 93 [none, some (.inl c1), some (.inl y2), none, none, none] [] s (k93 y2 s)) : ∀ (n : Nat) (x2 : Int) (x3 : Int) (x5 : Int) (s : Mem), J K rmX11_soon cX11_soon RX11 6 31 [some (.inr (.inr 100)), some (.inl c1), some (.inl x2), some (.inl x3), some (.inl c4), some (.inl x5)] [] s (LX11_soon_31 c1 c4 k93 n x2 x3 x5 s) := by
  intro n
  induction n with
  | zero => intros; exact J_none
  | succ n ih =>
    intro x2 x3 x5 s
    show J K _ _ _ _ _ _ _ _ (LX11_soon_31 c1 c4 k93 (n + 1) x2 x3 x5 s)
    simp only [LX11_soon_31]
    refine j_iload dX11_soon_31 rfl ?_
    refine j_iload dX11_soon_33 rfl ?_
    refine j_icmp_ge (tgt := 93) dX11_soon_35 rfl ?_ ?_
    · exact j_msk [false, true, true, false, false, false] (hk93 _ _)
    · refine j_aload_n dX11_soon_38 rfl rfl ?_
      refine j_iload dX11_soon_39 rfl ?_
      refine j_callVi (mX11_changes (kl K) (kD K) (kad K) (kcA K) x5 s) cw_RX11_214 sh_100 rfl ⟨rfl, rfl, by decide, by decide⟩ rfl rfl (Nat.le_of_ble_eq_true rfl) dX11_soon_41 (fun r3 s4 => ?_)
      refine j_if_eq (tgt := 87) dX11_soon_44 rfl ?_ ?_
      · refine j_iincE (ls2 := [some (.inr (.inr 100)), some (.inl c1), some (.inl x2), some (.inl x3), some (.inl c4), some (.inl (wr (x5 + 1)))]) dX11_soon_87 rfl (by decide) rfl rfl ?_
        refine j_goto (tgt := 31) dX11_soon_90 rfl ?_
        exact j_msk [true, true, true, true, true, true] (ih _ _ _ _)
      · refine j_iload_n dX11_soon_47 rfl rfl ?_
        refine j_bipush (v := (-4)) dX11_soon_48 (by decide +kernel) (inr_d rfl) ?_
        refine j_icmp_eq (tgt := 84) dX11_soon_50 rfl ?_ ?_
        · refine j_iload dX11_soon_84 rfl ?_
          refine j_istore_nE (ls2 := [some (.inr (.inr 100)), some (.inl c1), some (.inl x2), some (.inl x5), some (.inl c4), some (.inl x5)]) dX11_soon_86 rfl (by decide) rfl rfl ?_
          refine j_iincE (ls2 := [some (.inr (.inr 100)), some (.inl c1), some (.inl x2), some (.inl x5), some (.inl c4), some (.inl (wr (x5 + 1)))]) dX11_soon_87 rfl (by decide) rfl rfl ?_
          refine j_goto (tgt := 31) dX11_soon_90 rfl ?_
          exact j_msk [true, true, true, true, true, true] (ih _ _ _ _)
        · refine j_iload dX11_soon_53 rfl ?_
          refine j_iload_n dX11_soon_55 rfl rfl ?_
          refine j_isub dX11_soon_56 ?_
          refine j_aload_n dX11_soon_57 rfl rfl ?_
          refine j_getI fl_RX11_25 sh_100 rfl dX11_soon_58 ?_
          refine j_icmp_ge (tgt := 84) dX11_soon_61 rfl ?_ ?_
          · refine j_iload dX11_soon_84 rfl ?_
            refine j_istore_nE (ls2 := [some (.inr (.inr 100)), some (.inl c1), some (.inl x2), some (.inl x5), some (.inl c4), some (.inl x5)]) dX11_soon_86 rfl (by decide) rfl rfl ?_
            refine j_iincE (ls2 := [some (.inr (.inr 100)), some (.inl c1), some (.inl x2), some (.inl x5), some (.inl c4), some (.inl (wr (x5 + 1)))]) dX11_soon_87 rfl (by decide) rfl rfl ?_
            refine j_goto (tgt := 31) dX11_soon_90 rfl ?_
            exact j_msk [true, true, true, true, true, true] (ih _ _ _ _)
          · refine j_aload_n dX11_soon_64 rfl rfl ?_
            refine j_iload dX11_soon_65 rfl ?_
            refine j_callVi (mX11_isLet (kl K) (kD K) (kad K) (kcA K) x5 s4) cw_RX11_217 sh_100 rfl ⟨rfl, rfl, by decide, by decide⟩ rfl rfl (Nat.le_of_ble_eq_true rfl) dX11_soon_67 (fun r5 s6 => ?_)
            refine j_if_ne (tgt := 84) dX11_soon_70 rfl ?_ ?_
            · refine j_iload dX11_soon_84 rfl ?_
              refine j_istore_nE (ls2 := [some (.inr (.inr 100)), some (.inl c1), some (.inl x2), some (.inl x5), some (.inl c4), some (.inl x5)]) dX11_soon_86 rfl (by decide) rfl rfl ?_
              refine j_iincE (ls2 := [some (.inr (.inr 100)), some (.inl c1), some (.inl x2), some (.inl x5), some (.inl c4), some (.inl (wr (x5 + 1)))]) dX11_soon_87 rfl (by decide) rfl rfl ?_
              refine j_goto (tgt := 31) dX11_soon_90 rfl ?_
              exact j_msk [true, true, true, true, true, true] (ih _ _ _ _)
            · refine j_iload_n dX11_soon_73 rfl rfl ?_
              refine j_iload_n dX11_soon_74 rfl rfl ?_
              refine j_icmp_ne (tgt := 81) dX11_soon_75 rfl ?_ ?_
              · refine j_iincE (ls2 := [some (.inr (.inr 100)), some (.inl c1), some (.inl (wr (x2 + 1))), some (.inl x3), some (.inl c4), some (.inl x5)]) dX11_soon_81 rfl (by decide) rfl rfl ?_
                refine j_iload dX11_soon_84 rfl ?_
                refine j_istore_nE (ls2 := [some (.inr (.inr 100)), some (.inl c1), some (.inl (wr (x2 + 1))), some (.inl x5), some (.inl c4), some (.inl x5)]) dX11_soon_86 rfl (by decide) rfl rfl ?_
                refine j_iincE (ls2 := [some (.inr (.inr 100)), some (.inl c1), some (.inl (wr (x2 + 1))), some (.inl x5), some (.inl c4), some (.inl (wr (x5 + 1)))]) dX11_soon_87 rfl (by decide) rfl rfl ?_
                refine j_goto (tgt := 31) dX11_soon_90 rfl ?_
                exact j_msk [true, true, true, true, true, true] (ih _ _ _ _)
              · refine j_iload dX11_soon_78 rfl ?_
                exact j_iret hq dX11_soon_80
set_option maxRecDepth 100000 in
set_option maxHeartbeats 4000000 in
theorem mX11_soon (l : Launch) (D : va_G) (ad : Nat → Nat) (cA : Nat → ClassId) (a1 : Int) (s0 : Mem) : MCi l D ad cA yX11_soon cX11_soon 6 (some .int) rmX11_soon [.inr (.inr 100), .inl a1] s0 (fX11_soon a1 s0) := by
  refine MCi_ofE (own := RX11) (ls := [some (.inr (.inr 100)), some (.inl a1), none, none, none, none]) 4 (by decide +kernel) rfl rfl (fun _ => Nat.le_of_ble_eq_true rfl) (fun K hq => ?_)
  unfold fX11_soon
  refine j_iload_n dX11_soon_0 rfl rfl ?_
  refine j_iconst dX11_soon_1 (inr_d rfl) ?_
  refine j_icmp_ge (tgt := 7) dX11_soon_2 rfl ?_ ?_
  · refine j_aload_n dX11_soon_7 rfl rfl ?_
    refine j_getI fl_RX11_191 sh_100 rfl dX11_soon_8 ?_
    refine j_if_ne (tgt := 17) dX11_soon_11 rfl ?_ ?_
    · refine j_iconst dX11_soon_17 (inr_d rfl) ?_
      refine j_istore_nE (ls2 := [some (.inr (.inr 100)), some (.inl a1), some (.inl 0), none, none, none]) dX11_soon_18 rfl (by decide) rfl rfl ?_
      refine j_bipush (v := (-4)) dX11_soon_19 (by decide +kernel) (inr_d rfl) ?_
      refine j_istore_nE (ls2 := [some (.inr (.inr 100)), some (.inl a1), some (.inl 0), some (.inl (-4)), none, none]) dX11_soon_21 rfl (by decide) rfl rfl ?_
      refine j_aload_n dX11_soon_22 rfl rfl ?_
      refine j_callVi (mX11_frameMany (kl K) (kD K) (kad K) (kcA K) s0) cw_RX11_195 sh_100 rfl ⟨rfl, rfl, by decide, by decide⟩ rfl rfl (Nat.le_of_ble_eq_true rfl) dX11_soon_23 (fun r1 s2 => ?_)
      refine j_istoreE (ls2 := [some (.inr (.inr 100)), some (.inl a1), some (.inl 0), some (.inl (-4)), some (.inl r1), none]) dX11_soon_26 (by decide) rfl rfl ?_
      refine j_iconst dX11_soon_28 (inr_d rfl) ?_
      refine j_istoreE (ls2 := [some (.inr (.inr 100)), some (.inl a1), some (.inl 0), some (.inl (-4)), some (.inl r1), some (.inl 1)]) dX11_soon_29 (by decide) rfl rfl ?_
      refine j_msk [true, true, true, true, true, true] (jLX11_soon_31 hq _ _ _ (fun y8 s7 => ?_) _ _ _ _ _)
      refine j_iload_n dX11_soon_93 rfl rfl ?_
      refine j_if_ge (tgt := 101) dX11_soon_94 rfl ?_ ?_
      · refine j_bipush (v := (-4)) dX11_soon_101 (by decide +kernel) (inr_d rfl) ?_
        exact j_iret hq dX11_soon_103
      · refine j_iload_n dX11_soon_97 rfl rfl ?_
        refine j_goto (tgt := 103) dX11_soon_98 rfl ?_
        exact j_iret hq dX11_soon_103
    · refine j_bipush (v := (-2)) dX11_soon_14 (by decide +kernel) (inr_d rfl) ?_
      exact j_iret hq dX11_soon_16
  · refine j_iconst dX11_soon_5 (inr_d rfl) ?_
    exact j_iret hq dX11_soon_6
abbrev rmX11_list : Room := { frames := 4, cells := 0, slots := 0, locals := 93 }
theorem dX11_list_0 : decode cX11_list 0 = .ok (.iload_n 1, 1) := by decide +kernel
theorem dX11_list_1 : decode cX11_list 1 = .ok (.iconst 0, 1) := by decide +kernel
theorem dX11_list_2 : decode cX11_list 2 = .ok (.iconst 4, 1) := by decide +kernel
theorem dX11_list_3 : decode cX11_list 3 = .ok (.invokestatic 125, 3) := by decide +kernel
theorem dX11_list_6 : decode cX11_list 6 = .ok (.ifCond .ne 5, 3) := by decide +kernel
theorem dX11_list_9 : decode cX11_list 9 = .ok (.iconst (-1), 1) := by decide +kernel
theorem dX11_list_10 : decode cX11_list 10 = .ok (.ireturn, 1) := by decide +kernel
theorem dX11_list_11 : decode cX11_list 11 = .ok (.aload_n 0, 1) := by decide +kernel
theorem dX11_list_12 : decode cX11_list 12 = .ok (.getfield 191, 3) := by decide +kernel
theorem dX11_list_15 : decode cX11_list 15 = .ok (.ifCond .ne 6, 3) := by decide +kernel
theorem dX11_list_18 : decode cX11_list 18 = .ok (.bipush (-2), 2) := by decide +kernel
theorem dX11_list_20 : decode cX11_list 20 = .ok (.ireturn, 1) := by decide +kernel
theorem dX11_list_21 : decode cX11_list 21 = .ok (.aload_n 0, 1) := by decide +kernel
theorem dX11_list_22 : decode cX11_list 22 = .ok (.invokevirtual 195, 3) := by decide +kernel
theorem dX11_list_25 : decode cX11_list 25 = .ok (.istore_n 2, 1) := by decide +kernel
theorem dX11_list_26 : decode cX11_list 26 = .ok (.aload_n 0, 1) := by decide +kernel
theorem dX11_list_27 : decode cX11_list 27 = .ok (.getfield 38, 3) := by decide +kernel
theorem dX11_list_30 : decode cX11_list 30 = .ok (.iconst 1, 1) := by decide +kernel
theorem dX11_list_31 : decode cX11_list 31 = .ok (.iaload, 1) := by decide +kernel
theorem dX11_list_32 : decode cX11_list 32 = .ok (.ifCond .ne 7, 3) := by decide +kernel
theorem dX11_list_35 : decode cX11_list 35 = .ok (.iconst 1, 1) := by decide +kernel
theorem dX11_list_36 : decode cX11_list 36 = .ok (.goto 9, 3) := by decide +kernel
theorem dX11_list_39 : decode cX11_list 39 = .ok (.aload_n 0, 1) := by decide +kernel
theorem dX11_list_40 : decode cX11_list 40 = .ok (.getfield 38, 3) := by decide +kernel
theorem dX11_list_43 : decode cX11_list 43 = .ok (.iconst 1, 1) := by decide +kernel
theorem dX11_list_44 : decode cX11_list 44 = .ok (.iaload, 1) := by decide +kernel
theorem dX11_list_45 : decode cX11_list 45 = .ok (.istore_n 3, 1) := by decide +kernel
theorem dX11_list_46 : decode cX11_list 46 = .ok (.iload_n 1, 1) := by decide +kernel
theorem dX11_list_47 : decode cX11_list 47 = .ok (.iconst 3, 1) := by decide +kernel
theorem dX11_list_48 : decode cX11_list 48 = .ok (.if_icmp .ne 43, 3) := by decide +kernel
theorem dX11_list_51 : decode cX11_list 51 = .ok (.iconst 0, 1) := by decide +kernel
theorem dX11_list_52 : decode cX11_list 52 = .ok (.istore 4, 2) := by decide +kernel
theorem dX11_list_54 : decode cX11_list 54 = .ok (.iconst 1, 1) := by decide +kernel
theorem dX11_list_55 : decode cX11_list 55 = .ok (.istore 5, 2) := by decide +kernel
theorem dX11_list_57 : decode cX11_list 57 = .ok (.iload 5, 2) := by decide +kernel
theorem dX11_list_59 : decode cX11_list 59 = .ok (.iload_n 2, 1) := by decide +kernel
theorem dX11_list_60 : decode cX11_list 60 = .ok (.if_icmp .ge 28, 3) := by decide +kernel
theorem dX11_list_63 : decode cX11_list 63 = .ok (.iload 4, 2) := by decide +kernel
theorem dX11_list_65 : decode cX11_list 65 = .ok (.aload_n 0, 1) := by decide +kernel
theorem dX11_list_66 : decode cX11_list 66 = .ok (.iload 5, 2) := by decide +kernel
theorem dX11_list_68 : decode cX11_list 68 = .ok (.invokevirtual 214, 3) := by decide +kernel
theorem dX11_list_71 : decode cX11_list 71 = .ok (.ifCond .eq 7, 3) := by decide +kernel
theorem dX11_list_74 : decode cX11_list 74 = .ok (.iconst 1, 1) := by decide +kernel
theorem dX11_list_75 : decode cX11_list 75 = .ok (.goto 4, 3) := by decide +kernel
theorem dX11_list_78 : decode cX11_list 78 = .ok (.iconst 0, 1) := by decide +kernel
theorem dX11_list_79 : decode cX11_list 79 = .ok (.iadd, 1) := by decide +kernel
theorem dX11_list_80 : decode cX11_list 80 = .ok (.istore 4, 2) := by decide +kernel
theorem dX11_list_82 : decode cX11_list 82 = .ok (.iinc 5 1, 3) := by decide +kernel
theorem dX11_list_85 : decode cX11_list 85 = .ok (.goto (-28), 3) := by decide +kernel
theorem dX11_list_88 : decode cX11_list 88 = .ok (.iload 4, 2) := by decide +kernel
theorem dX11_list_90 : decode cX11_list 90 = .ok (.ireturn, 1) := by decide +kernel
theorem dX11_list_91 : decode cX11_list 91 = .ok (.iload_n 1, 1) := by decide +kernel
theorem dX11_list_92 : decode cX11_list 92 = .ok (.ifCond .ne 12, 3) := by decide +kernel
theorem dX11_list_95 : decode cX11_list 95 = .ok (.aload_n 0, 1) := by decide +kernel
theorem dX11_list_96 : decode cX11_list 96 = .ok (.getfield 35, 3) := by decide +kernel
theorem dX11_list_99 : decode cX11_list 99 = .ok (.iconst 1, 1) := by decide +kernel
theorem dX11_list_100 : decode cX11_list 100 = .ok (.iaload, 1) := by decide +kernel
theorem dX11_list_101 : decode cX11_list 101 = .ok (.goto 30, 3) := by decide +kernel
theorem dX11_list_104 : decode cX11_list 104 = .ok (.iload_n 1, 1) := by decide +kernel
theorem dX11_list_105 : decode cX11_list 105 = .ok (.iconst 1, 1) := by decide +kernel
theorem dX11_list_106 : decode cX11_list 106 = .ok (.if_icmp .ne 7, 3) := by decide +kernel
theorem dX11_list_109 : decode cX11_list 109 = .ok (.iload_n 2, 1) := by decide +kernel
theorem dX11_list_110 : decode cX11_list 110 = .ok (.goto 21, 3) := by decide +kernel
theorem dX11_list_113 : decode cX11_list 113 = .ok (.iload_n 1, 1) := by decide +kernel
theorem dX11_list_114 : decode cX11_list 114 = .ok (.iconst 2, 1) := by decide +kernel
theorem dX11_list_115 : decode cX11_list 115 = .ok (.if_icmp .ne 7, 3) := by decide +kernel
theorem dX11_list_118 : decode cX11_list 118 = .ok (.iload_n 3, 1) := by decide +kernel
theorem dX11_list_119 : decode cX11_list 119 = .ok (.goto 12, 3) := by decide +kernel
theorem dX11_list_122 : decode cX11_list 122 = .ok (.iload_n 3, 1) := by decide +kernel
theorem dX11_list_123 : decode cX11_list 123 = .ok (.iload_n 2, 1) := by decide +kernel
theorem dX11_list_124 : decode cX11_list 124 = .ok (.bipush 15, 2) := by decide +kernel
theorem dX11_list_126 : decode cX11_list 126 = .ok (.iadd, 1) := by decide +kernel
theorem dX11_list_127 : decode cX11_list 127 = .ok (.bipush 16, 2) := by decide +kernel
theorem dX11_list_129 : decode cX11_list 129 = .ok (.idiv, 1) := by decide +kernel
theorem dX11_list_130 : decode cX11_list 130 = .ok (.imul, 1) := by decide +kernel
theorem dX11_list_131 : decode cX11_list 131 = .ok (.ireturn, 1) := by decide +kernel
def LX11_list_57 (c2 : Int) (k88 : Int → Mem → Option Res) : Nat → Int → Int → Mem → Option Res
  | 0 => fun _ _ _ => none
  | n + 1 => fun x4 x5 s => (if c2 ≤ x5 then
 k88 x4 s
 else
 bnd (fX11_changes x5 s) (fun r9 s10 =>
 (if r9 = 0 then
 lt (wr (x4 + 0)) (fun v11 =>
 LX11_list_57 c2 k88 n v11 (wr (x5 + 1)) s10)
 else
 lt (wr (x4 + 1)) (fun v12 =>
 LX11_list_57 c2 k88 n v12 (wr (x5 + 1)) s10))))
def fX11_list (a1 : Int) (s0 : Mem) : Option Res :=
 bnd (fX11_in a1 0 4 s0) (fun r1 s2 =>
 (if r1 ≠ 0 then
 (if s2 100 19 ≠ 0 then
 bnd (fX11_frameMany s2) (fun r3 s4 =>
 rd (s4 107) 1 4 (fun v5 =>
 jn (fun (u6 : Int) (s7 : Mem) =>
 (if a1 ≠ 3 then
 (if a1 ≠ 0 then
 (if a1 ≠ 1 then
 (if a1 ≠ 2 then
 some (wr (u6 * (Int.tdiv (wr (r3 + 15)) 16)), s7)
 else
 some (u6, s7))
 else
 some (r3, s7))
 else
 rd (s7 106) 1 4 (fun v8 =>
 some (v8, s7)))
 else
 LX11_list_57 r3 (fun y14 s13 =>
 some (y14, s13)) FU 0 1 s7)) (fun k45 =>
 (if v5 ≠ 0 then
 rd (s4 107) 1 4 (fun v15 =>
 k45 v15 s4)
 else
 k45 1 s4))))
 else
 some ((-2), s2))
 else
 some ((-1), s2)))
set_option maxRecDepth 100000 in
set_option maxHeartbeats 4000000 in
theorem jLX11_list_57 {K : KT} (hq : KI K (some .int)) (c2 : Int) (k88 : Int → Mem → Option Res) (hk88 : ∀ (y4 : Int) (s : Mem), J K rmX11_list cX11_list RX11 6 88 [none, none, none, none, some (.inl y4), none] [] s (k88 y4 s)) : ∀ (n : Nat) (x4 : Int) (x5 : Int) (s : Mem), J K rmX11_list cX11_list RX11 6 57 [some (.inr (.inr 100)), none, some (.inl c2), none, some (.inl x4), some (.inl x5)] [] s (LX11_list_57 c2 k88 n x4 x5 s) := by
  intro n
  induction n with
  | zero => intros; exact J_none
  | succ n ih =>
    intro x4 x5 s
    show J K _ _ _ _ _ _ _ _ (LX11_list_57 c2 k88 (n + 1) x4 x5 s)
    simp only [LX11_list_57]
    refine j_iload dX11_list_57 rfl ?_
    refine j_iload_n dX11_list_59 rfl rfl ?_
    refine j_icmp_ge (tgt := 88) dX11_list_60 rfl ?_ ?_
    · exact j_msk [false, false, false, false, true, false] (hk88 _ _)
    · refine j_iload dX11_list_63 rfl ?_
      refine j_aload_n dX11_list_65 rfl rfl ?_
      refine j_iload dX11_list_66 rfl ?_
      refine j_callVi (mX11_changes (kl K) (kD K) (kad K) (kcA K) x5 s) cw_RX11_214 sh_100 rfl ⟨rfl, rfl, by decide, by decide⟩ rfl rfl (Nat.le_of_ble_eq_true rfl) dX11_list_68 (fun r9 s10 => ?_)
      refine j_if_eq (tgt := 78) dX11_list_71 rfl ?_ ?_
      · refine j_iconst dX11_list_78 (inr_d rfl) ?_
        refine j_iadd dX11_list_79 ?_
        refine j_ltv (fun v11 => ?_)
        refine j_istoreE (ls2 := [some (.inr (.inr 100)), none, some (.inl c2), none, some (.inl v11), some (.inl x5)]) dX11_list_80 (by decide) rfl rfl ?_
        refine j_iincE (ls2 := [some (.inr (.inr 100)), none, some (.inl c2), none, some (.inl v11), some (.inl (wr (x5 + 1)))]) dX11_list_82 rfl (by decide) rfl rfl ?_
        refine j_goto (tgt := 57) dX11_list_85 rfl ?_
        exact j_msk [true, false, true, false, true, true] (ih _ _ _)
      · refine j_iconst dX11_list_74 (inr_d rfl) ?_
        refine j_goto (tgt := 79) dX11_list_75 rfl ?_
        refine j_iadd dX11_list_79 ?_
        refine j_ltv (fun v12 => ?_)
        refine j_istoreE (ls2 := [some (.inr (.inr 100)), none, some (.inl c2), none, some (.inl v12), some (.inl x5)]) dX11_list_80 (by decide) rfl rfl ?_
        refine j_iincE (ls2 := [some (.inr (.inr 100)), none, some (.inl c2), none, some (.inl v12), some (.inl (wr (x5 + 1)))]) dX11_list_82 rfl (by decide) rfl rfl ?_
        refine j_goto (tgt := 57) dX11_list_85 rfl ?_
        exact j_msk [true, false, true, false, true, true] (ih _ _ _)
set_option maxRecDepth 100000 in
set_option maxHeartbeats 4000000 in
theorem mX11_list (l : Launch) (D : va_G) (ad : Nat → Nat) (cA : Nat → ClassId) (a1 : Int) (s0 : Mem) : MCi l D ad cA yX11_list cX11_list 6 (some .int) rmX11_list [.inr (.inr 100), .inl a1] s0 (fX11_list a1 s0) := by
  refine MCi_ofE (own := RX11) (ls := [some (.inr (.inr 100)), some (.inl a1), none, none, none, none]) 4 (by decide +kernel) rfl rfl (fun _ => Nat.le_of_ble_eq_true rfl) (fun K hq => ?_)
  unfold fX11_list
  refine j_iload_n dX11_list_0 rfl rfl ?_
  refine j_iconst dX11_list_1 (inr_d rfl) ?_
  refine j_iconst dX11_list_2 (inr_d rfl) ?_
  refine j_callSi (mX11_in (kl K) (kD K) (kad K) (kcA K) a1 0 4 s0) cw_RX11_125 ⟨rfl, rfl, by decide, by decide⟩ rfl rfl (Nat.le_of_ble_eq_true rfl) dX11_list_3 (fun r1 s2 => ?_)
  refine j_if_ne (tgt := 11) dX11_list_6 rfl ?_ ?_
  · refine j_aload_n dX11_list_11 rfl rfl ?_
    refine j_getI fl_RX11_191 sh_100 rfl dX11_list_12 ?_
    refine j_if_ne (tgt := 21) dX11_list_15 rfl ?_ ?_
    · refine j_aload_n dX11_list_21 rfl rfl ?_
      refine j_callVi (mX11_frameMany (kl K) (kD K) (kad K) (kcA K) s2) cw_RX11_195 sh_100 rfl ⟨rfl, rfl, by decide, by decide⟩ rfl rfl (Nat.le_of_ble_eq_true rfl) dX11_list_22 (fun r3 s4 => ?_)
      refine j_istore_nE (ls2 := [some (.inr (.inr 100)), some (.inl a1), some (.inl r3), none, none, none]) dX11_list_25 rfl (by decide) rfl rfl ?_
      refine j_aload_n dX11_list_26 rfl rfl ?_
      refine j_getR fl_RX11_38 sh_100 rfl dX11_list_27 ?_
      refine j_iconst dX11_list_30 (inr_d rfl) ?_
      refine j_iald sh_107 dX11_list_31 (fun v5 => ?_)
      refine j_jn (fun k45 => ∀ (u6 : Int) (s7 : Mem), J K rmX11_list cX11_list RX11 6 45 [some (.inr (.inr 100)), some (.inl a1), some (.inl r3), none, none, none] [.inl u6] s7 (k45 u6 s7)) (fun u6 s7 => ?_) (fun k45 hk45 => ?_)
      · refine j_istore_nE (ls2 := [some (.inr (.inr 100)), some (.inl a1), some (.inl r3), some (.inl u6), none, none]) dX11_list_45 rfl (by decide) rfl rfl ?_
        refine j_iload_n dX11_list_46 rfl rfl ?_
        refine j_iconst dX11_list_47 (inr_d rfl) ?_
        refine j_icmp_ne (tgt := 91) dX11_list_48 rfl ?_ ?_
        · refine j_iload_n dX11_list_91 rfl rfl ?_
          refine j_if_ne (tgt := 104) dX11_list_92 rfl ?_ ?_
          · refine j_iload_n dX11_list_104 rfl rfl ?_
            refine j_iconst dX11_list_105 (inr_d rfl) ?_
            refine j_icmp_ne (tgt := 113) dX11_list_106 rfl ?_ ?_
            · refine j_iload_n dX11_list_113 rfl rfl ?_
              refine j_iconst dX11_list_114 (inr_d rfl) ?_
              refine j_icmp_ne (tgt := 122) dX11_list_115 rfl ?_ ?_
              · refine j_iload_n dX11_list_122 rfl rfl ?_
                refine j_iload_n dX11_list_123 rfl rfl ?_
                refine j_bipush (v := 15) dX11_list_124 (by decide +kernel) (inr_d rfl) ?_
                refine j_iadd dX11_list_126 ?_
                refine j_bipush (v := 16) dX11_list_127 (by decide +kernel) (inr_d rfl) ?_
                refine j_idiv_p dX11_list_129 (by decide) ?_
                refine j_imul dX11_list_130 ?_
                exact j_iret hq dX11_list_131
              · refine j_iload_n dX11_list_118 rfl rfl ?_
                refine j_goto (tgt := 131) dX11_list_119 rfl ?_
                exact j_iret hq dX11_list_131
            · refine j_iload_n dX11_list_109 rfl rfl ?_
              refine j_goto (tgt := 131) dX11_list_110 rfl ?_
              exact j_iret hq dX11_list_131
          · refine j_aload_n dX11_list_95 rfl rfl ?_
            refine j_getR fl_RX11_35 sh_100 rfl dX11_list_96 ?_
            refine j_iconst dX11_list_99 (inr_d rfl) ?_
            refine j_iald sh_106 dX11_list_100 (fun v8 => ?_)
            refine j_goto (tgt := 131) dX11_list_101 rfl ?_
            exact j_iret hq dX11_list_131
        · refine j_iconst dX11_list_51 (inr_d rfl) ?_
          refine j_istoreE (ls2 := [some (.inr (.inr 100)), some (.inl a1), some (.inl r3), some (.inl u6), some (.inl 0), none]) dX11_list_52 (by decide) rfl rfl ?_
          refine j_iconst dX11_list_54 (inr_d rfl) ?_
          refine j_istoreE (ls2 := [some (.inr (.inr 100)), some (.inl a1), some (.inl r3), some (.inl u6), some (.inl 0), some (.inl 1)]) dX11_list_55 (by decide) rfl rfl ?_
          refine j_msk [true, false, true, false, true, true] (jLX11_list_57 hq _ _ (fun y14 s13 => ?_) _ _ _ _)
          refine j_iload dX11_list_88 rfl ?_
          exact j_iret hq dX11_list_90
      refine j_if_ne (tgt := 39) dX11_list_32 rfl ?_ ?_
      · refine j_aload_n dX11_list_39 rfl rfl ?_
        refine j_getR fl_RX11_38 sh_100 rfl dX11_list_40 ?_
        refine j_iconst dX11_list_43 (inr_d rfl) ?_
        refine j_iald sh_107 dX11_list_44 (fun v15 => ?_)
        exact j_msk [true, true, true, false, false, false] (hk45 _ _)
      · refine j_iconst dX11_list_35 (inr_d rfl) ?_
        refine j_goto (tgt := 45) dX11_list_36 rfl ?_
        exact j_msk [true, true, true, false, false, false] (hk45 _ _)
    · refine j_bipush (v := (-2)) dX11_list_18 (by decide +kernel) (inr_d rfl) ?_
      exact j_iret hq dX11_list_20
  · refine j_iconst dX11_list_9 (inr_d rfl) ?_
    exact j_iret hq dX11_list_10
abbrev rmX11_shot : Room := { frames := 1, cells := 0, slots := 0, locals := 22 }
theorem dX11_shot_0 : decode cX11_shot 0 = .ok (.iload_n 1, 1) := by decide +kernel
theorem dX11_shot_1 : decode cX11_shot 1 = .ok (.iconst 0, 1) := by decide +kernel
theorem dX11_shot_2 : decode cX11_shot 2 = .ok (.bipush 15, 2) := by decide +kernel
theorem dX11_shot_4 : decode cX11_shot 4 = .ok (.invokestatic 125, 3) := by decide +kernel
theorem dX11_shot_7 : decode cX11_shot 7 = .ok (.ifCond .eq 51, 3) := by decide +kernel
theorem dX11_shot_10 : decode cX11_shot 10 = .ok (.iload_n 2, 1) := by decide +kernel
theorem dX11_shot_11 : decode cX11_shot 11 = .ok (.iconst 0, 1) := by decide +kernel
theorem dX11_shot_12 : decode cX11_shot 12 = .ok (.iconst 2, 1) := by decide +kernel
theorem dX11_shot_13 : decode cX11_shot 13 = .ok (.invokestatic 125, 3) := by decide +kernel
theorem dX11_shot_16 : decode cX11_shot 16 = .ok (.ifCond .eq 42, 3) := by decide +kernel
theorem dX11_shot_19 : decode cX11_shot 19 = .ok (.iload_n 3, 1) := by decide +kernel
theorem dX11_shot_20 : decode cX11_shot 20 = .ok (.iconst 0, 1) := by decide +kernel
theorem dX11_shot_21 : decode cX11_shot 21 = .ok (.iconst 1, 1) := by decide +kernel
theorem dX11_shot_22 : decode cX11_shot 22 = .ok (.invokestatic 125, 3) := by decide +kernel
theorem dX11_shot_25 : decode cX11_shot 25 = .ok (.ifCond .eq 33, 3) := by decide +kernel
theorem dX11_shot_28 : decode cX11_shot 28 = .ok (.iload_n 3, 1) := by decide +kernel
theorem dX11_shot_29 : decode cX11_shot 29 = .ok (.ifCond .ne 17, 3) := by decide +kernel
theorem dX11_shot_32 : decode cX11_shot 32 = .ok (.iload 4, 2) := by decide +kernel
theorem dX11_shot_34 : decode cX11_shot 34 = .ok (.iconst 0, 1) := by decide +kernel
theorem dX11_shot_35 : decode cX11_shot 35 = .ok (.bipush 60, 2) := by decide +kernel
theorem dX11_shot_37 : decode cX11_shot 37 = .ok (.invokestatic 125, 3) := by decide +kernel
theorem dX11_shot_40 : decode cX11_shot 40 = .ok (.ifCond .eq 18, 3) := by decide +kernel
theorem dX11_shot_43 : decode cX11_shot 43 = .ok (.goto 18, 3) := by decide +kernel
theorem dX11_shot_46 : decode cX11_shot 46 = .ok (.iload 4, 2) := by decide +kernel
theorem dX11_shot_48 : decode cX11_shot 48 = .ok (.iconst (-1), 1) := by decide +kernel
theorem dX11_shot_49 : decode cX11_shot 49 = .ok (.sipush 255, 3) := by decide +kernel
theorem dX11_shot_52 : decode cX11_shot 52 = .ok (.invokestatic 125, 3) := by decide +kernel
theorem dX11_shot_55 : decode cX11_shot 55 = .ok (.ifCond .ne 6, 3) := by decide +kernel
theorem dX11_shot_58 : decode cX11_shot 58 = .ok (.bipush (-100), 2) := by decide +kernel
theorem dX11_shot_60 : decode cX11_shot 60 = .ok (.ireturn, 1) := by decide +kernel
theorem dX11_shot_61 : decode cX11_shot 61 = .ok (.iconst 3, 1) := by decide +kernel
theorem dX11_shot_62 : decode cX11_shot 62 = .ok (.iload_n 1, 1) := by decide +kernel
theorem dX11_shot_63 : decode cX11_shot 63 = .ok (.imul, 1) := by decide +kernel
theorem dX11_shot_64 : decode cX11_shot 64 = .ok (.iload_n 2, 1) := by decide +kernel
theorem dX11_shot_65 : decode cX11_shot 65 = .ok (.iadd, 1) := by decide +kernel
theorem dX11_shot_66 : decode cX11_shot 66 = .ok (.istore 5, 2) := by decide +kernel
theorem dX11_shot_68 : decode cX11_shot 68 = .ok (.iload_n 3, 1) := by decide +kernel
theorem dX11_shot_69 : decode cX11_shot 69 = .ok (.ifCond .ne 13, 3) := by decide +kernel
theorem dX11_shot_72 : decode cX11_shot 72 = .ok (.aload_n 0, 1) := by decide +kernel
theorem dX11_shot_73 : decode cX11_shot 73 = .ok (.getfield 68, 3) := by decide +kernel
theorem dX11_shot_76 : decode cX11_shot 76 = .ok (.iload 5, 2) := by decide +kernel
theorem dX11_shot_78 : decode cX11_shot 78 = .ok (.iaload, 1) := by decide +kernel
theorem dX11_shot_79 : decode cX11_shot 79 = .ok (.goto 10, 3) := by decide +kernel
theorem dX11_shot_82 : decode cX11_shot 82 = .ok (.aload_n 0, 1) := by decide +kernel
theorem dX11_shot_83 : decode cX11_shot 83 = .ok (.getfield 71, 3) := by decide +kernel
theorem dX11_shot_86 : decode cX11_shot 86 = .ok (.iload 5, 2) := by decide +kernel
theorem dX11_shot_88 : decode cX11_shot 88 = .ok (.iaload, 1) := by decide +kernel
theorem dX11_shot_89 : decode cX11_shot 89 = .ok (.istore 6, 2) := by decide +kernel
theorem dX11_shot_91 : decode cX11_shot 91 = .ok (.iload_n 3, 1) := by decide +kernel
theorem dX11_shot_92 : decode cX11_shot 92 = .ok (.ifCond .ne 15, 3) := by decide +kernel
theorem dX11_shot_95 : decode cX11_shot 95 = .ok (.aload_n 0, 1) := by decide +kernel
theorem dX11_shot_96 : decode cX11_shot 96 = .ok (.getfield 68, 3) := by decide +kernel
theorem dX11_shot_99 : decode cX11_shot 99 = .ok (.iload 5, 2) := by decide +kernel
theorem dX11_shot_101 : decode cX11_shot 101 = .ok (.iload 4, 2) := by decide +kernel
theorem dX11_shot_103 : decode cX11_shot 103 = .ok (.iastore, 1) := by decide +kernel
theorem dX11_shot_104 : decode cX11_shot 104 = .ok (.goto 12, 3) := by decide +kernel
theorem dX11_shot_107 : decode cX11_shot 107 = .ok (.aload_n 0, 1) := by decide +kernel
theorem dX11_shot_108 : decode cX11_shot 108 = .ok (.getfield 71, 3) := by decide +kernel
theorem dX11_shot_111 : decode cX11_shot 111 = .ok (.iload 5, 2) := by decide +kernel
theorem dX11_shot_113 : decode cX11_shot 113 = .ok (.iload 4, 2) := by decide +kernel
theorem dX11_shot_115 : decode cX11_shot 115 = .ok (.iastore, 1) := by decide +kernel
theorem dX11_shot_116 : decode cX11_shot 116 = .ok (.iload 6, 2) := by decide +kernel
theorem dX11_shot_118 : decode cX11_shot 118 = .ok (.ireturn, 1) := by decide +kernel
def fX11_shot (a1 : Int) (a2 : Int) (a3 : Int) (a4 : Int) (s0 : Mem) : Option Res :=
 bnd (fX11_in a1 0 15 s0) (fun r1 s2 =>
 (if r1 = 0 then
 some ((-100), s2)
 else
 bnd (fX11_in a2 0 2 s2) (fun r3 s4 =>
 (if r3 = 0 then
 some ((-100), s4)
 else
 bnd (fX11_in a3 0 1 s4) (fun r5 s6 =>
 (if r5 = 0 then
 some ((-100), s6)
 else
 jn (fun (s7 : Mem) =>
 lt (wr ((wr (3 * a1)) + a2)) (fun v8 =>
 jn (fun (u9 : Int) (s10 : Mem) =>
 (if a3 ≠ 0 then
 ST s10 118 v8 144 a4 (fun s11 =>
 some (u9, s11))
 else
 ST s10 117 v8 144 a4 (fun s12 =>
 some (u9, s12)))) (fun k89 =>
 (if a3 ≠ 0 then
 rd (s7 118) v8 144 (fun v13 =>
 k89 v13 s7)
 else
 rd (s7 117) v8 144 (fun v14 =>
 k89 v14 s7))))) (fun k61 =>
 (if a3 ≠ 0 then
 bnd (fX11_in a4 (-1) 255 s6) (fun r15 s16 =>
 (if r15 ≠ 0 then
 k61 s16
 else
 some ((-100), s16)))
 else
 bnd (fX11_in a4 0 60 s6) (fun r17 s18 =>
 (if r17 = 0 then
 some ((-100), s18)
 else
 k61 s18))))))))))
set_option maxRecDepth 100000 in
set_option maxHeartbeats 4000000 in
theorem mX11_shot (l : Launch) (D : va_G) (ad : Nat → Nat) (cA : Nat → ClassId) (a1 : Int) (a2 : Int) (a3 : Int) (a4 : Int) (s0 : Mem) : MCi l D ad cA yX11_shot cX11_shot 7 (some .int) rmX11_shot [.inr (.inr 100), .inl a1, .inl a2, .inl a3, .inl a4] s0 (fX11_shot a1 a2 a3 a4 s0) := by
  refine MCi_ofE (own := RX11) (ls := [some (.inr (.inr 100)), some (.inl a1), some (.inl a2), some (.inl a3), some (.inl a4), none, none]) 2 (by decide +kernel) rfl rfl (fun _ => Nat.le_of_ble_eq_true rfl) (fun K hq => ?_)
  unfold fX11_shot
  refine j_iload_n dX11_shot_0 rfl rfl ?_
  refine j_iconst dX11_shot_1 (inr_d rfl) ?_
  refine j_bipush (v := 15) dX11_shot_2 (by decide +kernel) (inr_d rfl) ?_
  refine j_callSi (mX11_in (kl K) (kD K) (kad K) (kcA K) a1 0 15 s0) cw_RX11_125 ⟨rfl, rfl, by decide, by decide⟩ rfl rfl (Nat.le_of_ble_eq_true rfl) dX11_shot_4 (fun r1 s2 => ?_)
  refine j_if_eq (tgt := 58) dX11_shot_7 rfl ?_ ?_
  · refine j_bipush (v := (-100)) dX11_shot_58 (by decide +kernel) (inr_d rfl) ?_
    exact j_iret hq dX11_shot_60
  · refine j_iload_n dX11_shot_10 rfl rfl ?_
    refine j_iconst dX11_shot_11 (inr_d rfl) ?_
    refine j_iconst dX11_shot_12 (inr_d rfl) ?_
    refine j_callSi (mX11_in (kl K) (kD K) (kad K) (kcA K) a2 0 2 s2) cw_RX11_125 ⟨rfl, rfl, by decide, by decide⟩ rfl rfl (Nat.le_of_ble_eq_true rfl) dX11_shot_13 (fun r3 s4 => ?_)
    refine j_if_eq (tgt := 58) dX11_shot_16 rfl ?_ ?_
    · refine j_bipush (v := (-100)) dX11_shot_58 (by decide +kernel) (inr_d rfl) ?_
      exact j_iret hq dX11_shot_60
    · refine j_iload_n dX11_shot_19 rfl rfl ?_
      refine j_iconst dX11_shot_20 (inr_d rfl) ?_
      refine j_iconst dX11_shot_21 (inr_d rfl) ?_
      refine j_callSi (mX11_in (kl K) (kD K) (kad K) (kcA K) a3 0 1 s4) cw_RX11_125 ⟨rfl, rfl, by decide, by decide⟩ rfl rfl (Nat.le_of_ble_eq_true rfl) dX11_shot_22 (fun r5 s6 => ?_)
      refine j_if_eq (tgt := 58) dX11_shot_25 rfl ?_ ?_
      · refine j_bipush (v := (-100)) dX11_shot_58 (by decide +kernel) (inr_d rfl) ?_
        exact j_iret hq dX11_shot_60
      · refine j_iload_n dX11_shot_28 rfl rfl ?_
        refine j_jn (fun k61 => ∀ (s7 : Mem), J K rmX11_shot cX11_shot RX11 7 61 [some (.inr (.inr 100)), some (.inl a1), some (.inl a2), some (.inl a3), some (.inl a4), none, none] [] s7 (k61 s7)) (fun s7 => ?_) (fun k61 hk61 => ?_)
        · refine j_iconst dX11_shot_61 (inr_d rfl) ?_
          refine j_iload_n dX11_shot_62 rfl rfl ?_
          refine j_imul dX11_shot_63 ?_
          refine j_iload_n dX11_shot_64 rfl rfl ?_
          refine j_iadd dX11_shot_65 ?_
          refine j_ltv (fun v8 => ?_)
          refine j_istoreE (ls2 := [some (.inr (.inr 100)), some (.inl a1), some (.inl a2), some (.inl a3), some (.inl a4), some (.inl v8), none]) dX11_shot_66 (by decide) rfl rfl ?_
          refine j_iload_n dX11_shot_68 rfl rfl ?_
          refine j_jn (fun k89 => ∀ (u9 : Int) (s10 : Mem), J K rmX11_shot cX11_shot RX11 7 89 [some (.inr (.inr 100)), none, none, some (.inl a3), some (.inl a4), some (.inl v8), none] [.inl u9] s10 (k89 u9 s10)) (fun u9 s10 => ?_) (fun k89 hk89 => ?_)
          · refine j_istoreE (ls2 := [some (.inr (.inr 100)), none, none, some (.inl a3), some (.inl a4), some (.inl v8), some (.inl u9)]) dX11_shot_89 (by decide) rfl rfl ?_
            refine j_iload_n dX11_shot_91 rfl rfl ?_
            refine j_if_ne (tgt := 107) dX11_shot_92 rfl ?_ ?_
            · refine j_aload_n dX11_shot_107 rfl rfl ?_
              refine j_getR fl_RX11_71 sh_100 rfl dX11_shot_108 ?_
              refine j_iload dX11_shot_111 rfl ?_
              refine j_iload dX11_shot_113 rfl ?_
              refine j_iast sh_118 dX11_shot_115 (fun s11 => ?_)
              refine j_iload dX11_shot_116 rfl ?_
              exact j_iret hq dX11_shot_118
            · refine j_aload_n dX11_shot_95 rfl rfl ?_
              refine j_getR fl_RX11_68 sh_100 rfl dX11_shot_96 ?_
              refine j_iload dX11_shot_99 rfl ?_
              refine j_iload dX11_shot_101 rfl ?_
              refine j_iast sh_117 dX11_shot_103 (fun s12 => ?_)
              refine j_goto (tgt := 116) dX11_shot_104 rfl ?_
              refine j_iload dX11_shot_116 rfl ?_
              exact j_iret hq dX11_shot_118
          refine j_if_ne (tgt := 82) dX11_shot_69 rfl ?_ ?_
          · refine j_aload_n dX11_shot_82 rfl rfl ?_
            refine j_getR fl_RX11_71 sh_100 rfl dX11_shot_83 ?_
            refine j_iload dX11_shot_86 rfl ?_
            refine j_iald sh_118 dX11_shot_88 (fun v13 => ?_)
            exact j_msk [true, false, false, true, true, true, false] (hk89 _ _)
          · refine j_aload_n dX11_shot_72 rfl rfl ?_
            refine j_getR fl_RX11_68 sh_100 rfl dX11_shot_73 ?_
            refine j_iload dX11_shot_76 rfl ?_
            refine j_iald sh_117 dX11_shot_78 (fun v14 => ?_)
            refine j_goto (tgt := 89) dX11_shot_79 rfl ?_
            exact j_msk [true, false, false, true, true, true, false] (hk89 _ _)
        refine j_if_ne (tgt := 46) dX11_shot_29 rfl ?_ ?_
        · refine j_iload dX11_shot_46 rfl ?_
          refine j_iconst dX11_shot_48 (inr_d rfl) ?_
          refine j_sipush (v := 255) dX11_shot_49 (by decide +kernel) (inr_d rfl) ?_
          refine j_callSi (mX11_in (kl K) (kD K) (kad K) (kcA K) a4 (-1) 255 s6) cw_RX11_125 ⟨rfl, rfl, by decide, by decide⟩ rfl rfl (Nat.le_of_ble_eq_true rfl) dX11_shot_52 (fun r15 s16 => ?_)
          refine j_if_ne (tgt := 61) dX11_shot_55 rfl ?_ ?_
          · exact j_msk [true, true, true, true, true, false, false] (hk61 _)
          · refine j_bipush (v := (-100)) dX11_shot_58 (by decide +kernel) (inr_d rfl) ?_
            exact j_iret hq dX11_shot_60
        · refine j_iload dX11_shot_32 rfl ?_
          refine j_iconst dX11_shot_34 (inr_d rfl) ?_
          refine j_bipush (v := 60) dX11_shot_35 (by decide +kernel) (inr_d rfl) ?_
          refine j_callSi (mX11_in (kl K) (kD K) (kad K) (kcA K) a4 0 60 s6) cw_RX11_125 ⟨rfl, rfl, by decide, by decide⟩ rfl rfl (Nat.le_of_ble_eq_true rfl) dX11_shot_37 (fun r17 s18 => ?_)
          refine j_if_eq (tgt := 58) dX11_shot_40 rfl ?_ ?_
          · refine j_bipush (v := (-100)) dX11_shot_58 (by decide +kernel) (inr_d rfl) ?_
            exact j_iret hq dX11_shot_60
          · refine j_goto (tgt := 61) dX11_shot_43 rfl ?_
            exact j_msk [true, true, true, true, true, false, false] (hk61 _)
abbrev rmX11_mayBe : Room := { frames := 3, cells := 0, slots := 0, locals := 71 }
theorem dX11_mayBe_0 : decode cX11_mayBe 0 = .ok (.iconst 3, 1) := by decide +kernel
theorem dX11_mayBe_1 : decode cX11_mayBe 1 = .ok (.iload 4, 2) := by decide +kernel
theorem dX11_mayBe_3 : decode cX11_mayBe 3 = .ok (.imul, 1) := by decide +kernel
theorem dX11_mayBe_4 : decode cX11_mayBe 4 = .ok (.iload_n 3, 1) := by decide +kernel
theorem dX11_mayBe_5 : decode cX11_mayBe 5 = .ok (.iadd, 1) := by decide +kernel
theorem dX11_mayBe_6 : decode cX11_mayBe 6 = .ok (.istore 6, 2) := by decide +kernel
theorem dX11_mayBe_8 : decode cX11_mayBe 8 = .ok (.aload_n 0, 1) := by decide +kernel
theorem dX11_mayBe_9 : decode cX11_mayBe 9 = .ok (.getfield 71, 3) := by decide +kernel
theorem dX11_mayBe_12 : decode cX11_mayBe 12 = .ok (.iload 6, 2) := by decide +kernel
theorem dX11_mayBe_14 : decode cX11_mayBe 14 = .ok (.iaload, 1) := by decide +kernel
theorem dX11_mayBe_15 : decode cX11_mayBe 15 = .ok (.ifCond .ge 7, 3) := by decide +kernel
theorem dX11_mayBe_18 : decode cX11_mayBe 18 = .ok (.iconst 0, 1) := by decide +kernel
theorem dX11_mayBe_19 : decode cX11_mayBe 19 = .ok (.goto 27, 3) := by decide +kernel
theorem dX11_mayBe_22 : decode cX11_mayBe 22 = .ok (.aload_n 0, 1) := by decide +kernel
theorem dX11_mayBe_23 : decode cX11_mayBe 23 = .ok (.iload_n 1, 1) := by decide +kernel
theorem dX11_mayBe_24 : decode cX11_mayBe 24 = .ok (.iload_n 3, 1) := by decide +kernel
theorem dX11_mayBe_25 : decode cX11_mayBe 25 = .ok (.iload 5, 2) := by decide +kernel
theorem dX11_mayBe_27 : decode cX11_mayBe 27 = .ok (.aload_n 0, 1) := by decide +kernel
theorem dX11_mayBe_28 : decode cX11_mayBe 28 = .ok (.getfield 68, 3) := by decide +kernel
theorem dX11_mayBe_31 : decode cX11_mayBe 31 = .ok (.iload 6, 2) := by decide +kernel
theorem dX11_mayBe_33 : decode cX11_mayBe 33 = .ok (.iaload, 1) := by decide +kernel
theorem dX11_mayBe_34 : decode cX11_mayBe 34 = .ok (.iload_n 2, 1) := by decide +kernel
theorem dX11_mayBe_35 : decode cX11_mayBe 35 = .ok (.invokevirtual 152, 3) := by decide +kernel
theorem dX11_mayBe_38 : decode cX11_mayBe 38 = .ok (.aload_n 0, 1) := by decide +kernel
theorem dX11_mayBe_39 : decode cX11_mayBe 39 = .ok (.getfield 71, 3) := by decide +kernel
theorem dX11_mayBe_42 : decode cX11_mayBe 42 = .ok (.iload 6, 2) := by decide +kernel
theorem dX11_mayBe_44 : decode cX11_mayBe 44 = .ok (.iaload, 1) := by decide +kernel
theorem dX11_mayBe_45 : decode cX11_mayBe 45 = .ok (.isub, 1) := by decide +kernel
theorem dX11_mayBe_46 : decode cX11_mayBe 46 = .ok (.istore 7, 2) := by decide +kernel
theorem dX11_mayBe_48 : decode cX11_mayBe 48 = .ok (.iload 7, 2) := by decide +kernel
theorem dX11_mayBe_50 : decode cX11_mayBe 50 = .ok (.ifCond .ge 9, 3) := by decide +kernel
theorem dX11_mayBe_53 : decode cX11_mayBe 53 = .ok (.iload 7, 2) := by decide +kernel
theorem dX11_mayBe_55 : decode cX11_mayBe 55 = .ok (.ineg, 1) := by decide +kernel
theorem dX11_mayBe_56 : decode cX11_mayBe 56 = .ok (.goto 5, 3) := by decide +kernel
theorem dX11_mayBe_59 : decode cX11_mayBe 59 = .ok (.iload 7, 2) := by decide +kernel
theorem dX11_mayBe_61 : decode cX11_mayBe 61 = .ok (.aload_n 0, 1) := by decide +kernel
theorem dX11_mayBe_62 : decode cX11_mayBe 62 = .ok (.getfield 29, 3) := by decide +kernel
theorem dX11_mayBe_65 : decode cX11_mayBe 65 = .ok (.if_icmp .gt 7, 3) := by decide +kernel
theorem dX11_mayBe_68 : decode cX11_mayBe 68 = .ok (.iconst 1, 1) := by decide +kernel
theorem dX11_mayBe_69 : decode cX11_mayBe 69 = .ok (.goto 4, 3) := by decide +kernel
theorem dX11_mayBe_72 : decode cX11_mayBe 72 = .ok (.iconst 0, 1) := by decide +kernel
theorem dX11_mayBe_73 : decode cX11_mayBe 73 = .ok (.ireturn, 1) := by decide +kernel
def fX11_mayBe (a1 : Int) (a2 : Int) (a3 : Int) (a4 : Int) (a5 : Int) (s0 : Mem) : Option Res :=
 lt (wr ((wr (3 * a4)) + a3)) (fun v1 =>
 rd (s0 118) v1 144 (fun v2 =>
 jn (fun (u3 : Int) (s4 : Mem) =>
 jn (fun (u5 : Int) (s6 : Mem) =>
 (if s6 100 6 < u5 then
 zr 0 s6
 else
 zr 1 s6)) (fun k61 =>
 (if 0 ≤ u3 then
 k61 u3 s4
 else
 k61 (wr (-u3)) s4))) (fun k46 =>
 (if 0 ≤ v2 then
 rd (s0 117) v1 144 (fun v7 =>
 bnd (fX11_printed a1 a3 a5 v7 a2 s0) (fun r8 s9 =>
 rd (s9 118) v1 144 (fun v10 =>
 k46 (wr (r8 - v10)) s9)))
 else
 k46 0 s0))))
set_option maxRecDepth 100000 in
set_option maxHeartbeats 4000000 in
theorem mX11_mayBe (l : Launch) (D : va_G) (ad : Nat → Nat) (cA : Nat → ClassId) (a1 : Int) (a2 : Int) (a3 : Int) (a4 : Int) (a5 : Int) (s0 : Mem) : MCi l D ad cA yX11_mayBe cX11_mayBe 8 (some .boolean) rmX11_mayBe [.inr (.inr 100), .inl a1, .inl a2, .inl a3, .inl a4, .inl a5] s0 (fX11_mayBe a1 a2 a3 a4 a5 s0) := by
  refine MCi_ofE (own := RX11) (ls := [some (.inr (.inr 100)), some (.inl a1), some (.inl a2), some (.inl a3), some (.inl a4), some (.inl a5), none, none]) 2 (by decide +kernel) rfl rfl (fun _ => Nat.le_of_ble_eq_true rfl) (fun K hq => ?_)
  unfold fX11_mayBe
  refine j_iconst dX11_mayBe_0 (inr_d rfl) ?_
  refine j_iload dX11_mayBe_1 rfl ?_
  refine j_imul dX11_mayBe_3 ?_
  refine j_iload_n dX11_mayBe_4 rfl rfl ?_
  refine j_iadd dX11_mayBe_5 ?_
  refine j_ltv (fun v1 => ?_)
  refine j_istoreE (ls2 := [some (.inr (.inr 100)), some (.inl a1), some (.inl a2), some (.inl a3), some (.inl a4), some (.inl a5), some (.inl v1), none]) dX11_mayBe_6 (by decide) rfl rfl ?_
  refine j_aload_n dX11_mayBe_8 rfl rfl ?_
  refine j_getR fl_RX11_71 sh_100 rfl dX11_mayBe_9 ?_
  refine j_iload dX11_mayBe_12 rfl ?_
  refine j_iald sh_118 dX11_mayBe_14 (fun v2 => ?_)
  refine j_jn (fun k46 => ∀ (u3 : Int) (s4 : Mem), J K rmX11_mayBe cX11_mayBe RX11 8 46 [some (.inr (.inr 100)), none, none, none, none, none, none, none] [.inl u3] s4 (k46 u3 s4)) (fun u3 s4 => ?_) (fun k46 hk46 => ?_)
  · refine j_istoreE (ls2 := [some (.inr (.inr 100)), none, none, none, none, none, none, some (.inl u3)]) dX11_mayBe_46 (by decide) rfl rfl ?_
    refine j_iload dX11_mayBe_48 rfl ?_
    refine j_jn (fun k61 => ∀ (u5 : Int) (s6 : Mem), J K rmX11_mayBe cX11_mayBe RX11 8 61 [some (.inr (.inr 100)), none, none, none, none, none, none, none] [.inl u5] s6 (k61 u5 s6)) (fun u5 s6 => ?_) (fun k61 hk61 => ?_)
    · refine j_aload_n dX11_mayBe_61 rfl rfl ?_
      refine j_getI fl_RX11_29 sh_100 rfl dX11_mayBe_62 ?_
      refine j_icmp_gt (tgt := 72) dX11_mayBe_65 rfl ?_ ?_
      · refine j_iconst dX11_mayBe_72 (inr_d rfl) ?_
        exact j_zret hq dX11_mayBe_73
      · refine j_iconst dX11_mayBe_68 (inr_d rfl) ?_
        refine j_goto (tgt := 73) dX11_mayBe_69 rfl ?_
        exact j_zret hq dX11_mayBe_73
    refine j_if_ge (tgt := 59) dX11_mayBe_50 rfl ?_ ?_
    · refine j_iload dX11_mayBe_59 rfl ?_
      exact j_msk [true, false, false, false, false, false, false, false] (hk61 _ _)
    · refine j_iload dX11_mayBe_53 rfl ?_
      refine j_ineg dX11_mayBe_55 ?_
      refine j_goto (tgt := 61) dX11_mayBe_56 rfl ?_
      exact j_msk [true, false, false, false, false, false, false, false] (hk61 _ _)
  refine j_if_ge (tgt := 22) dX11_mayBe_15 rfl ?_ ?_
  · refine j_aload_n dX11_mayBe_22 rfl rfl ?_
    refine j_iload_n dX11_mayBe_23 rfl rfl ?_
    refine j_iload_n dX11_mayBe_24 rfl rfl ?_
    refine j_iload dX11_mayBe_25 rfl ?_
    refine j_aload_n dX11_mayBe_27 rfl rfl ?_
    refine j_getR fl_RX11_68 sh_100 rfl dX11_mayBe_28 ?_
    refine j_iload dX11_mayBe_31 rfl ?_
    refine j_iald sh_117 dX11_mayBe_33 (fun v7 => ?_)
    refine j_iload_n dX11_mayBe_34 rfl rfl ?_
    refine j_callVi (mX11_printed (kl K) (kD K) (kad K) (kcA K) a1 a3 a5 v7 a2 s0) cw_RX11_152 sh_100 rfl ⟨rfl, rfl, by decide, by decide⟩ rfl rfl (Nat.le_of_ble_eq_true rfl) dX11_mayBe_35 (fun r8 s9 => ?_)
    refine j_aload_n dX11_mayBe_38 rfl rfl ?_
    refine j_getR fl_RX11_71 sh_100 rfl dX11_mayBe_39 ?_
    refine j_iload dX11_mayBe_42 rfl ?_
    refine j_iald sh_118 dX11_mayBe_44 (fun v10 => ?_)
    refine j_isub dX11_mayBe_45 ?_
    exact j_msk [true, false, false, false, false, false, false, false] (hk46 _ _)
  · refine j_iconst dX11_mayBe_18 (inr_d rfl) ?_
    refine j_goto (tgt := 46) dX11_mayBe_19 rfl ?_
    exact j_msk [true, false, false, false, false, false, false, false] (hk46 _ _)
abbrev rmX11_size : Room := { frames := 0, cells := 0, slots := 0, locals := 0 }
theorem dX11_size_0 : decode cX11_size 0 = .ok (.iload_n 0, 1) := by decide +kernel
theorem dX11_size_1 : decode cX11_size 1 = .ok (.ifCond .ge 8, 3) := by decide +kernel
theorem dX11_size_4 : decode cX11_size 4 = .ok (.iload_n 0, 1) := by decide +kernel
theorem dX11_size_5 : decode cX11_size 5 = .ok (.ineg, 1) := by decide +kernel
theorem dX11_size_6 : decode cX11_size 6 = .ok (.goto 4, 3) := by decide +kernel
theorem dX11_size_9 : decode cX11_size 9 = .ok (.iload_n 0, 1) := by decide +kernel
theorem dX11_size_10 : decode cX11_size 10 = .ok (.ireturn, 1) := by decide +kernel
def fX11_size (a0 : Int) (s0 : Mem) : Option Res :=
 (if 0 ≤ a0 then
 some (a0, s0)
 else
 some (wr (-a0), s0))
set_option maxRecDepth 100000 in
set_option maxHeartbeats 4000000 in
theorem mX11_size (l : Launch) (D : va_G) (ad : Nat → Nat) (cA : Nat → ClassId) (a0 : Int) (s0 : Mem) : MCi l D ad cA yX11_size cX11_size 1 (some .int) rmX11_size [.inl a0] s0 (fX11_size a0 s0) := by
  refine MCi_ofE (own := RX11) (ls := [some (.inl a0)]) 0 (by decide +kernel) rfl rfl (fun _ => Nat.le_of_ble_eq_true rfl) (fun K hq => ?_)
  unfold fX11_size
  refine j_iload_n dX11_size_0 rfl rfl ?_
  refine j_if_ge (tgt := 9) dX11_size_1 rfl ?_ ?_
  · refine j_iload_n dX11_size_9 rfl rfl ?_
    exact j_iret hq dX11_size_10
  · refine j_iload_n dX11_size_4 rfl rfl ?_
    refine j_ineg dX11_size_5 ?_
    refine j_goto (tgt := 10) dX11_size_6 rfl ?_
    exact j_iret hq dX11_size_10
abbrev rmX11_laySteps : Room := { frames := 4, cells := 0, slots := 0, locals := 98 }
theorem dX11_laySteps_0 : decode cX11_laySteps 0 = .ok (.aload_n 0, 1) := by decide +kernel
theorem dX11_laySteps_1 : decode cX11_laySteps 1 = .ok (.getfield 35, 3) := by decide +kernel
theorem dX11_laySteps_4 : decode cX11_laySteps 4 = .ok (.iconst 1, 1) := by decide +kernel
theorem dX11_laySteps_5 : decode cX11_laySteps 5 = .ok (.iaload, 1) := by decide +kernel
theorem dX11_laySteps_6 : decode cX11_laySteps 6 = .ok (.iconst 1, 1) := by decide +kernel
theorem dX11_laySteps_7 : decode cX11_laySteps 7 = .ok (.isub, 1) := by decide +kernel
theorem dX11_laySteps_8 : decode cX11_laySteps 8 = .ok (.istore 4, 2) := by decide +kernel
theorem dX11_laySteps_10 : decode cX11_laySteps 10 = .ok (.iload 4, 2) := by decide +kernel
theorem dX11_laySteps_12 : decode cX11_laySteps 12 = .ok (.ifCond .lt 150, 3) := by decide +kernel
theorem dX11_laySteps_15 : decode cX11_laySteps 15 = .ok (.iconst 1, 1) := by decide +kernel
theorem dX11_laySteps_16 : decode cX11_laySteps 16 = .ok (.istore 5, 2) := by decide +kernel
theorem dX11_laySteps_18 : decode cX11_laySteps 18 = .ok (.iload 5, 2) := by decide +kernel
theorem dX11_laySteps_20 : decode cX11_laySteps 20 = .ok (.bipush 50, 2) := by decide +kernel
theorem dX11_laySteps_22 : decode cX11_laySteps 22 = .ok (.if_icmp .gt 134, 3) := by decide +kernel
theorem dX11_laySteps_25 : decode cX11_laySteps 25 = .ok (.ldc 220, 2) := by decide +kernel
theorem dX11_laySteps_27 : decode cX11_laySteps 27 = .ok (.istore 6, 2) := by decide +kernel
theorem dX11_laySteps_29 : decode cX11_laySteps 29 = .ok (.aload_n 0, 1) := by decide +kernel
theorem dX11_laySteps_30 : decode cX11_laySteps 30 = .ok (.iload_n 1, 1) := by decide +kernel
theorem dX11_laySteps_31 : decode cX11_laySteps 31 = .ok (.iload_n 2, 1) := by decide +kernel
theorem dX11_laySteps_32 : decode cX11_laySteps 32 = .ok (.iload_n 3, 1) := by decide +kernel
theorem dX11_laySteps_33 : decode cX11_laySteps 33 = .ok (.iload 4, 2) := by decide +kernel
theorem dX11_laySteps_35 : decode cX11_laySteps 35 = .ok (.iload 5, 2) := by decide +kernel
theorem dX11_laySteps_37 : decode cX11_laySteps 37 = .ok (.invokevirtual 221, 3) := by decide +kernel
theorem dX11_laySteps_40 : decode cX11_laySteps 40 = .ok (.ifCond .eq 95, 3) := by decide +kernel
theorem dX11_laySteps_43 : decode cX11_laySteps 43 = .ok (.iload 4, 2) := by decide +kernel
theorem dX11_laySteps_45 : decode cX11_laySteps 45 = .ok (.aload_n 0, 1) := by decide +kernel
theorem dX11_laySteps_46 : decode cX11_laySteps 46 = .ok (.getfield 35, 3) := by decide +kernel
theorem dX11_laySteps_49 : decode cX11_laySteps 49 = .ok (.iconst 1, 1) := by decide +kernel
theorem dX11_laySteps_50 : decode cX11_laySteps 50 = .ok (.iaload, 1) := by decide +kernel
theorem dX11_laySteps_51 : decode cX11_laySteps 51 = .ok (.iconst 1, 1) := by decide +kernel
theorem dX11_laySteps_52 : decode cX11_laySteps 52 = .ok (.isub, 1) := by decide +kernel
theorem dX11_laySteps_53 : decode cX11_laySteps 53 = .ok (.if_icmp .ne 7, 3) := by decide +kernel
theorem dX11_laySteps_56 : decode cX11_laySteps 56 = .ok (.iconst 0, 1) := by decide +kernel
theorem dX11_laySteps_57 : decode cX11_laySteps 57 = .ok (.goto 5, 3) := by decide +kernel
theorem dX11_laySteps_60 : decode cX11_laySteps 60 = .ok (.ldc 220, 2) := by decide +kernel
theorem dX11_laySteps_62 : decode cX11_laySteps 62 = .ok (.istore 6, 2) := by decide +kernel
theorem dX11_laySteps_64 : decode cX11_laySteps 64 = .ok (.iconst 1, 1) := by decide +kernel
theorem dX11_laySteps_65 : decode cX11_laySteps 65 = .ok (.istore 7, 2) := by decide +kernel
theorem dX11_laySteps_67 : decode cX11_laySteps 67 = .ok (.iload 7, 2) := by decide +kernel
theorem dX11_laySteps_69 : decode cX11_laySteps 69 = .ok (.bipush 50, 2) := by decide +kernel
theorem dX11_laySteps_71 : decode cX11_laySteps 71 = .ok (.if_icmp .gt 64, 3) := by decide +kernel
theorem dX11_laySteps_74 : decode cX11_laySteps 74 = .ok (.iload 4, 2) := by decide +kernel
theorem dX11_laySteps_76 : decode cX11_laySteps 76 = .ok (.aload_n 0, 1) := by decide +kernel
theorem dX11_laySteps_77 : decode cX11_laySteps 77 = .ok (.getfield 35, 3) := by decide +kernel
theorem dX11_laySteps_80 : decode cX11_laySteps 80 = .ok (.iconst 1, 1) := by decide +kernel
theorem dX11_laySteps_81 : decode cX11_laySteps 81 = .ok (.iaload, 1) := by decide +kernel
theorem dX11_laySteps_82 : decode cX11_laySteps 82 = .ok (.iconst 1, 1) := by decide +kernel
theorem dX11_laySteps_83 : decode cX11_laySteps 83 = .ok (.isub, 1) := by decide +kernel
theorem dX11_laySteps_84 : decode cX11_laySteps 84 = .ok (.if_icmp .ge 51, 3) := by decide +kernel
theorem dX11_laySteps_87 : decode cX11_laySteps 87 = .ok (.aload_n 0, 1) := by decide +kernel
theorem dX11_laySteps_88 : decode cX11_laySteps 88 = .ok (.getfield 98, 3) := by decide +kernel
theorem dX11_laySteps_91 : decode cX11_laySteps 91 = .ok (.bipush 51, 2) := by decide +kernel
theorem dX11_laySteps_93 : decode cX11_laySteps 93 = .ok (.iload 4, 2) := by decide +kernel
theorem dX11_laySteps_95 : decode cX11_laySteps 95 = .ok (.iconst 1, 1) := by decide +kernel
theorem dX11_laySteps_96 : decode cX11_laySteps 96 = .ok (.iadd, 1) := by decide +kernel
theorem dX11_laySteps_97 : decode cX11_laySteps 97 = .ok (.imul, 1) := by decide +kernel
theorem dX11_laySteps_98 : decode cX11_laySteps 98 = .ok (.iload 7, 2) := by decide +kernel
theorem dX11_laySteps_100 : decode cX11_laySteps 100 = .ok (.iadd, 1) := by decide +kernel
theorem dX11_laySteps_101 : decode cX11_laySteps 101 = .ok (.iaload, 1) := by decide +kernel
theorem dX11_laySteps_102 : decode cX11_laySteps 102 = .ok (.iload 5, 2) := by decide +kernel
theorem dX11_laySteps_104 : decode cX11_laySteps 104 = .ok (.iload 7, 2) := by decide +kernel
theorem dX11_laySteps_106 : decode cX11_laySteps 106 = .ok (.isub, 1) := by decide +kernel
theorem dX11_laySteps_107 : decode cX11_laySteps 107 = .ok (.invokestatic 225, 3) := by decide +kernel
theorem dX11_laySteps_110 : decode cX11_laySteps 110 = .ok (.iadd, 1) := by decide +kernel
theorem dX11_laySteps_111 : decode cX11_laySteps 111 = .ok (.istore 8, 2) := by decide +kernel
theorem dX11_laySteps_113 : decode cX11_laySteps 113 = .ok (.iload 8, 2) := by decide +kernel
theorem dX11_laySteps_115 : decode cX11_laySteps 115 = .ok (.iload 6, 2) := by decide +kernel
theorem dX11_laySteps_117 : decode cX11_laySteps 117 = .ok (.if_icmp .ge 8, 3) := by decide +kernel
theorem dX11_laySteps_120 : decode cX11_laySteps 120 = .ok (.iload 8, 2) := by decide +kernel
theorem dX11_laySteps_122 : decode cX11_laySteps 122 = .ok (.goto 5, 3) := by decide +kernel
theorem dX11_laySteps_125 : decode cX11_laySteps 125 = .ok (.iload 6, 2) := by decide +kernel
theorem dX11_laySteps_127 : decode cX11_laySteps 127 = .ok (.istore 6, 2) := by decide +kernel
theorem dX11_laySteps_129 : decode cX11_laySteps 129 = .ok (.iinc 7 1, 3) := by decide +kernel
theorem dX11_laySteps_132 : decode cX11_laySteps 132 = .ok (.goto (-65), 3) := by decide +kernel
theorem dX11_laySteps_135 : decode cX11_laySteps 135 = .ok (.aload_n 0, 1) := by decide +kernel
theorem dX11_laySteps_136 : decode cX11_laySteps 136 = .ok (.getfield 98, 3) := by decide +kernel
theorem dX11_laySteps_139 : decode cX11_laySteps 139 = .ok (.bipush 51, 2) := by decide +kernel
theorem dX11_laySteps_141 : decode cX11_laySteps 141 = .ok (.iload 4, 2) := by decide +kernel
theorem dX11_laySteps_143 : decode cX11_laySteps 143 = .ok (.imul, 1) := by decide +kernel
theorem dX11_laySteps_144 : decode cX11_laySteps 144 = .ok (.iload 5, 2) := by decide +kernel
theorem dX11_laySteps_146 : decode cX11_laySteps 146 = .ok (.iadd, 1) := by decide +kernel
theorem dX11_laySteps_147 : decode cX11_laySteps 147 = .ok (.iload 6, 2) := by decide +kernel
theorem dX11_laySteps_149 : decode cX11_laySteps 149 = .ok (.iastore, 1) := by decide +kernel
theorem dX11_laySteps_150 : decode cX11_laySteps 150 = .ok (.iinc 5 1, 3) := by decide +kernel
theorem dX11_laySteps_153 : decode cX11_laySteps 153 = .ok (.goto (-135), 3) := by decide +kernel
theorem dX11_laySteps_156 : decode cX11_laySteps 156 = .ok (.iinc 4 (-1), 3) := by decide +kernel
theorem dX11_laySteps_159 : decode cX11_laySteps 159 = .ok (.goto (-149), 3) := by decide +kernel
theorem dX11_laySteps_162 : decode cX11_laySteps 162 = .ok (.return_, 1) := by decide +kernel
def LX11_laySteps_67 (c1 : Int) (c2 : Int) (c3 : Int) (c4 : Int) (c5 : Int) (k135 : Int → Mem → Option Res) : Nat → Int → Int → Mem → Option Res
  | 0 => fun _ _ _ => none
  | n + 1 => fun x6 x7 s => (if 50 < x7 then
 k135 x6 s
 else
 rd (s 106) 1 4 (fun v9 =>
 (if wr (v9 - 1) ≤ c4 then
 k135 x6 s
 else
 rd (s 127) (wr ((wr (51 * (wr (c4 + 1)))) + x7)) 816 (fun v10 =>
 bnd (fX11_size (wr (c5 - x7)) s) (fun r11 s12 =>
 lt (wr (v10 + r11)) (fun v13 =>
 (if x6 ≤ v13 then
 LX11_laySteps_67 c1 c2 c3 c4 c5 k135 n x6 (wr (x7 + 1)) s12
 else
 LX11_laySteps_67 c1 c2 c3 c4 c5 k135 n v13 (wr (x7 + 1)) s12)))))))
def LX11_laySteps_18 (c1 : Int) (c2 : Int) (c3 : Int) (c4 : Int) (k156 : Mem → Option Res) : Nat → Int → Mem → Option Res
  | 0 => fun _ _ => none
  | n + 1 => fun x5 s => (if 50 < x5 then
 k156 s
 else
 bnd (fX11_mayBe c1 c2 c3 c4 x5 s) (fun r3 s4 =>
 jn (fun (w5 : Int) (s6 : Mem) =>
 ST s6 127 (wr ((wr (51 * c4)) + x5)) 816 w5 (fun s7 =>
 LX11_laySteps_18 c1 c2 c3 c4 k156 n (wr (x5 + 1)) s7)) (fun k135 =>
 (if r3 = 0 then
 k135 1000000 s4
 else
 rd (s4 106) 1 4 (fun v8 =>
 (if c4 ≠ wr (v8 - 1) then
 LX11_laySteps_67 c1 c2 c3 c4 x5 (fun y15 s14 =>
 k135 y15 s14) FU 1000000 1 s4
 else
 LX11_laySteps_67 c1 c2 c3 c4 x5 (fun y17 s16 =>
 k135 y17 s16) FU 0 1 s4))))))
def LX11_laySteps_10 (c1 : Int) (c2 : Int) (c3 : Int) (k162 : Mem → Option Res) : Nat → Int → Mem → Option Res
  | 0 => fun _ _ => none
  | n + 1 => fun x4 s => (if x4 < 0 then
 k162 s
 else
 LX11_laySteps_18 c1 c2 c3 x4 (fun s18 =>
 LX11_laySteps_10 c1 c2 c3 k162 n (wr (x4 + (-1))) s18) FU 1 s)
def fX11_laySteps (a1 : Int) (a2 : Int) (a3 : Int) (s0 : Mem) : Option Res :=
 rd (s0 106) 1 4 (fun v1 =>
 lt (wr (v1 - 1)) (fun v2 =>
 LX11_laySteps_10 a1 a2 a3 (fun s19 =>
 some (0, s19)) FU v2 s0))
set_option maxRecDepth 100000 in
set_option maxHeartbeats 4000000 in
theorem jLX11_laySteps_67 {K : KT} (hq : KV K none) (c1 : Int) (c2 : Int) (c3 : Int) (c4 : Int) (c5 : Int) (k135 : Int → Mem → Option Res) (hk135 : ∀ (y6 : Int) (s : Mem), J K rmX11_laySteps cX11_laySteps RX11 9 135 [some (.inr (.inr 100)), some (.inl c1), some (.inl c2), some (.inl c3), some (.inl c4), some (.inl c5), some (.inl y6), none, none] [] s (k135 y6 s)) : ∀ (n : Nat) (x6 : Int) (x7 : Int) (s : Mem), J K rmX11_laySteps cX11_laySteps RX11 9 67 [some (.inr (.inr 100)), some (.inl c1), some (.inl c2), some (.inl c3), some (.inl c4), some (.inl c5), some (.inl x6), some (.inl x7), none] [] s (LX11_laySteps_67 c1 c2 c3 c4 c5 k135 n x6 x7 s) := by
  intro n
  induction n with
  | zero => intros; exact J_none
  | succ n ih =>
    intro x6 x7 s
    show J K _ _ _ _ _ _ _ _ (LX11_laySteps_67 c1 c2 c3 c4 c5 k135 (n + 1) x6 x7 s)
    simp only [LX11_laySteps_67]
    refine j_iload dX11_laySteps_67 rfl ?_
    refine j_bipush (v := 50) dX11_laySteps_69 (by decide +kernel) (inr_d rfl) ?_
    refine j_icmp_gt (tgt := 135) dX11_laySteps_71 rfl ?_ ?_
    · exact j_msk [true, true, true, true, true, true, true, false, false] (hk135 _ _)
    · refine j_iload dX11_laySteps_74 rfl ?_
      refine j_aload_n dX11_laySteps_76 rfl rfl ?_
      refine j_getR fl_RX11_35 sh_100 rfl dX11_laySteps_77 ?_
      refine j_iconst dX11_laySteps_80 (inr_d rfl) ?_
      refine j_iald sh_106 dX11_laySteps_81 (fun v9 => ?_)
      refine j_iconst dX11_laySteps_82 (inr_d rfl) ?_
      refine j_isub dX11_laySteps_83 ?_
      refine j_icmp_ge (tgt := 135) dX11_laySteps_84 rfl ?_ ?_
      · exact j_msk [true, true, true, true, true, true, true, false, false] (hk135 _ _)
      · refine j_aload_n dX11_laySteps_87 rfl rfl ?_
        refine j_getR fl_RX11_98 sh_100 rfl dX11_laySteps_88 ?_
        refine j_bipush (v := 51) dX11_laySteps_91 (by decide +kernel) (inr_d rfl) ?_
        refine j_iload dX11_laySteps_93 rfl ?_
        refine j_iconst dX11_laySteps_95 (inr_d rfl) ?_
        refine j_iadd dX11_laySteps_96 ?_
        refine j_imul dX11_laySteps_97 ?_
        refine j_iload dX11_laySteps_98 rfl ?_
        refine j_iadd dX11_laySteps_100 ?_
        refine j_iald sh_127 dX11_laySteps_101 (fun v10 => ?_)
        refine j_iload dX11_laySteps_102 rfl ?_
        refine j_iload dX11_laySteps_104 rfl ?_
        refine j_isub dX11_laySteps_106 ?_
        refine j_callSi (mX11_size (kl K) (kD K) (kad K) (kcA K) (wr (c5 - x7)) s) cw_RX11_225 ⟨rfl, rfl, by decide, by decide⟩ rfl rfl (Nat.le_of_ble_eq_true rfl) dX11_laySteps_107 (fun r11 s12 => ?_)
        refine j_iadd dX11_laySteps_110 ?_
        refine j_ltv (fun v13 => ?_)
        refine j_istoreE (ls2 := [some (.inr (.inr 100)), some (.inl c1), some (.inl c2), some (.inl c3), some (.inl c4), some (.inl c5), some (.inl x6), some (.inl x7), some (.inl v13)]) dX11_laySteps_111 (by decide) rfl rfl ?_
        refine j_iload dX11_laySteps_113 rfl ?_
        refine j_iload dX11_laySteps_115 rfl ?_
        refine j_icmp_ge (tgt := 125) dX11_laySteps_117 rfl ?_ ?_
        · refine j_iload dX11_laySteps_125 rfl ?_
          refine j_istoreE (ls2 := [some (.inr (.inr 100)), some (.inl c1), some (.inl c2), some (.inl c3), some (.inl c4), some (.inl c5), some (.inl x6), some (.inl x7), some (.inl v13)]) dX11_laySteps_127 (by decide) rfl rfl ?_
          refine j_iincE (ls2 := [some (.inr (.inr 100)), some (.inl c1), some (.inl c2), some (.inl c3), some (.inl c4), some (.inl c5), some (.inl x6), some (.inl (wr (x7 + 1))), some (.inl v13)]) dX11_laySteps_129 rfl (by decide) rfl rfl ?_
          refine j_goto (tgt := 67) dX11_laySteps_132 rfl ?_
          exact j_msk [true, true, true, true, true, true, true, true, false] (ih _ _ _)
        · refine j_iload dX11_laySteps_120 rfl ?_
          refine j_goto (tgt := 127) dX11_laySteps_122 rfl ?_
          refine j_istoreE (ls2 := [some (.inr (.inr 100)), some (.inl c1), some (.inl c2), some (.inl c3), some (.inl c4), some (.inl c5), some (.inl v13), some (.inl x7), some (.inl v13)]) dX11_laySteps_127 (by decide) rfl rfl ?_
          refine j_iincE (ls2 := [some (.inr (.inr 100)), some (.inl c1), some (.inl c2), some (.inl c3), some (.inl c4), some (.inl c5), some (.inl v13), some (.inl (wr (x7 + 1))), some (.inl v13)]) dX11_laySteps_129 rfl (by decide) rfl rfl ?_
          refine j_goto (tgt := 67) dX11_laySteps_132 rfl ?_
          exact j_msk [true, true, true, true, true, true, true, true, false] (ih _ _ _)
set_option maxRecDepth 100000 in
set_option maxHeartbeats 4000000 in
theorem jLX11_laySteps_18 {K : KT} (hq : KV K none) (c1 : Int) (c2 : Int) (c3 : Int) (c4 : Int) (k156 : Mem → Option Res) (hk156 : ∀ (s : Mem), J K rmX11_laySteps cX11_laySteps RX11 9 156 [some (.inr (.inr 100)), some (.inl c1), some (.inl c2), some (.inl c3), some (.inl c4), none, none, none, none] [] s (k156 s)) : ∀ (n : Nat) (x5 : Int) (s : Mem), J K rmX11_laySteps cX11_laySteps RX11 9 18 [some (.inr (.inr 100)), some (.inl c1), some (.inl c2), some (.inl c3), some (.inl c4), some (.inl x5), none, none, none] [] s (LX11_laySteps_18 c1 c2 c3 c4 k156 n x5 s) := by
  intro n
  induction n with
  | zero => intros; exact J_none
  | succ n ih =>
    intro x5 s
    show J K _ _ _ _ _ _ _ _ (LX11_laySteps_18 c1 c2 c3 c4 k156 (n + 1) x5 s)
    simp only [LX11_laySteps_18]
    refine j_iload dX11_laySteps_18 rfl ?_
    refine j_bipush (v := 50) dX11_laySteps_20 (by decide +kernel) (inr_d rfl) ?_
    refine j_icmp_gt (tgt := 156) dX11_laySteps_22 rfl ?_ ?_
    · exact j_msk [true, true, true, true, true, false, false, false, false] (hk156 _)
    · refine j_ldc (v := 1000000) dX11_laySteps_25 cst_RX11_220 (inr_d rfl) ?_
      refine j_istoreE (ls2 := [some (.inr (.inr 100)), some (.inl c1), some (.inl c2), some (.inl c3), some (.inl c4), some (.inl x5), some (.inl 1000000), none, none]) dX11_laySteps_27 (by decide) rfl rfl ?_
      refine j_aload_n dX11_laySteps_29 rfl rfl ?_
      refine j_iload_n dX11_laySteps_30 rfl rfl ?_
      refine j_iload_n dX11_laySteps_31 rfl rfl ?_
      refine j_iload_n dX11_laySteps_32 rfl rfl ?_
      refine j_iload dX11_laySteps_33 rfl ?_
      refine j_iload dX11_laySteps_35 rfl ?_
      refine j_callVi (mX11_mayBe (kl K) (kD K) (kad K) (kcA K) c1 c2 c3 c4 x5 s) cw_RX11_221 sh_100 rfl ⟨rfl, rfl, by decide, by decide⟩ rfl rfl (Nat.le_of_ble_eq_true rfl) dX11_laySteps_37 (fun r3 s4 => ?_)
      refine j_jn (fun k135 => ∀ (w5 : Int) (s6 : Mem), J K rmX11_laySteps cX11_laySteps RX11 9 135 [some (.inr (.inr 100)), some (.inl c1), some (.inl c2), some (.inl c3), some (.inl c4), some (.inl x5), some (.inl w5), none, none] [] s6 (k135 w5 s6)) (fun w5 s6 => ?_) (fun k135 hk135 => ?_)
      · refine j_aload_n dX11_laySteps_135 rfl rfl ?_
        refine j_getR fl_RX11_98 sh_100 rfl dX11_laySteps_136 ?_
        refine j_bipush (v := 51) dX11_laySteps_139 (by decide +kernel) (inr_d rfl) ?_
        refine j_iload dX11_laySteps_141 rfl ?_
        refine j_imul dX11_laySteps_143 ?_
        refine j_iload dX11_laySteps_144 rfl ?_
        refine j_iadd dX11_laySteps_146 ?_
        refine j_iload dX11_laySteps_147 rfl ?_
        refine j_iast sh_127 dX11_laySteps_149 (fun s7 => ?_)
        refine j_iincE (ls2 := [some (.inr (.inr 100)), some (.inl c1), some (.inl c2), some (.inl c3), some (.inl c4), some (.inl (wr (x5 + 1))), some (.inl w5), none, none]) dX11_laySteps_150 rfl (by decide) rfl rfl ?_
        refine j_goto (tgt := 18) dX11_laySteps_153 rfl ?_
        exact j_msk [true, true, true, true, true, true, false, false, false] (ih _ _)
      refine j_if_eq (tgt := 135) dX11_laySteps_40 rfl ?_ ?_
      · exact j_msk [true, true, true, true, true, true, true, false, false] (hk135 _ _)
      · refine j_iload dX11_laySteps_43 rfl ?_
        refine j_aload_n dX11_laySteps_45 rfl rfl ?_
        refine j_getR fl_RX11_35 sh_100 rfl dX11_laySteps_46 ?_
        refine j_iconst dX11_laySteps_49 (inr_d rfl) ?_
        refine j_iald sh_106 dX11_laySteps_50 (fun v8 => ?_)
        refine j_iconst dX11_laySteps_51 (inr_d rfl) ?_
        refine j_isub dX11_laySteps_52 ?_
        refine j_icmp_ne (tgt := 60) dX11_laySteps_53 rfl ?_ ?_
        · refine j_ldc (v := 1000000) dX11_laySteps_60 cst_RX11_220 (inr_d rfl) ?_
          refine j_istoreE (ls2 := [some (.inr (.inr 100)), some (.inl c1), some (.inl c2), some (.inl c3), some (.inl c4), some (.inl x5), some (.inl 1000000), none, none]) dX11_laySteps_62 (by decide) rfl rfl ?_
          refine j_iconst dX11_laySteps_64 (inr_d rfl) ?_
          refine j_istoreE (ls2 := [some (.inr (.inr 100)), some (.inl c1), some (.inl c2), some (.inl c3), some (.inl c4), some (.inl x5), some (.inl 1000000), some (.inl 1), none]) dX11_laySteps_65 (by decide) rfl rfl ?_
          refine j_msk [true, true, true, true, true, true, true, true, false] (jLX11_laySteps_67 hq _ _ _ _ _ _ (fun y15 s14 => ?_) _ _ _ _)
          exact j_msk [true, true, true, true, true, true, true, false, false] (hk135 _ _)
        · refine j_iconst dX11_laySteps_56 (inr_d rfl) ?_
          refine j_goto (tgt := 62) dX11_laySteps_57 rfl ?_
          refine j_istoreE (ls2 := [some (.inr (.inr 100)), some (.inl c1), some (.inl c2), some (.inl c3), some (.inl c4), some (.inl x5), some (.inl 0), none, none]) dX11_laySteps_62 (by decide) rfl rfl ?_
          refine j_iconst dX11_laySteps_64 (inr_d rfl) ?_
          refine j_istoreE (ls2 := [some (.inr (.inr 100)), some (.inl c1), some (.inl c2), some (.inl c3), some (.inl c4), some (.inl x5), some (.inl 0), some (.inl 1), none]) dX11_laySteps_65 (by decide) rfl rfl ?_
          refine j_msk [true, true, true, true, true, true, true, true, false] (jLX11_laySteps_67 hq _ _ _ _ _ _ (fun y17 s16 => ?_) _ _ _ _)
          exact j_msk [true, true, true, true, true, true, true, false, false] (hk135 _ _)
set_option maxRecDepth 100000 in
set_option maxHeartbeats 4000000 in
theorem jLX11_laySteps_10 {K : KT} (hq : KV K none) (c1 : Int) (c2 : Int) (c3 : Int) (k162 : Mem → Option Res) (hk162 : ∀ (s : Mem), J K rmX11_laySteps cX11_laySteps RX11 9 162 [none, none, none, none, none, none, none, none, none] [] s (k162 s)) : ∀ (n : Nat) (x4 : Int) (s : Mem), J K rmX11_laySteps cX11_laySteps RX11 9 10 [some (.inr (.inr 100)), some (.inl c1), some (.inl c2), some (.inl c3), some (.inl x4), none, none, none, none] [] s (LX11_laySteps_10 c1 c2 c3 k162 n x4 s) := by
  intro n
  induction n with
  | zero => intros; exact J_none
  | succ n ih =>
    intro x4 s
    show J K _ _ _ _ _ _ _ _ (LX11_laySteps_10 c1 c2 c3 k162 (n + 1) x4 s)
    simp only [LX11_laySteps_10]
    refine j_iload dX11_laySteps_10 rfl ?_
    refine j_if_lt (tgt := 162) dX11_laySteps_12 rfl ?_ ?_
    · exact j_msk [false, false, false, false, false, false, false, false, false] (hk162 _)
    · refine j_iconst dX11_laySteps_15 (inr_d rfl) ?_
      refine j_istoreE (ls2 := [some (.inr (.inr 100)), some (.inl c1), some (.inl c2), some (.inl c3), some (.inl x4), some (.inl 1), none, none, none]) dX11_laySteps_16 (by decide) rfl rfl ?_
      refine j_msk [true, true, true, true, true, true, false, false, false] (jLX11_laySteps_18 hq _ _ _ _ _ (fun s18 => ?_) _ _ _)
      refine j_iincE (ls2 := [some (.inr (.inr 100)), some (.inl c1), some (.inl c2), some (.inl c3), some (.inl (wr (x4 + (-1)))), none, none, none, none]) dX11_laySteps_156 rfl (by decide) rfl rfl ?_
      refine j_goto (tgt := 10) dX11_laySteps_159 rfl ?_
      exact j_msk [true, true, true, true, true, false, false, false, false] (ih _ _)
set_option maxRecDepth 100000 in
set_option maxHeartbeats 4000000 in
theorem mX11_laySteps (l : Launch) (D : va_G) (ad : Nat → Nat) (cA : Nat → ClassId) (a1 : Int) (a2 : Int) (a3 : Int) (s0 : Mem) : MCv l D ad cA yX11_laySteps cX11_laySteps 9 none rmX11_laySteps [.inr (.inr 100), .inl a1, .inl a2, .inl a3] s0 (fX11_laySteps a1 a2 a3 s0) := by
  refine MCv_ofE (own := RX11) (ls := [some (.inr (.inr 100)), some (.inl a1), some (.inl a2), some (.inl a3), none, none, none, none, none]) 5 (by decide +kernel) rfl rfl (fun _ => Nat.le_of_ble_eq_true rfl) (fun K hq => ?_)
  unfold fX11_laySteps
  refine j_aload_n dX11_laySteps_0 rfl rfl ?_
  refine j_getR fl_RX11_35 sh_100 rfl dX11_laySteps_1 ?_
  refine j_iconst dX11_laySteps_4 (inr_d rfl) ?_
  refine j_iald sh_106 dX11_laySteps_5 (fun v1 => ?_)
  refine j_iconst dX11_laySteps_6 (inr_d rfl) ?_
  refine j_isub dX11_laySteps_7 ?_
  refine j_ltv (fun v2 => ?_)
  refine j_istoreE (ls2 := [some (.inr (.inr 100)), some (.inl a1), some (.inl a2), some (.inl a3), some (.inl v2), none, none, none, none]) dX11_laySteps_8 (by decide) rfl rfl ?_
  refine j_msk [true, true, true, true, true, false, false, false, false] (jLX11_laySteps_10 hq _ _ _ _ (fun s19 => ?_) _ _ _)
  exact j_vret hq dX11_laySteps_162
abbrev rmX11_grade : Room := { frames := 5, cells := 0, slots := 0, locals := 126 }
theorem dX11_grade_0 : decode cX11_grade 0 = .ok (.iload_n 1, 1) := by decide +kernel
theorem dX11_grade_1 : decode cX11_grade 1 = .ok (.iconst 0, 1) := by decide +kernel
theorem dX11_grade_2 : decode cX11_grade 2 = .ok (.iconst 2, 1) := by decide +kernel
theorem dX11_grade_3 : decode cX11_grade 3 = .ok (.invokestatic 125, 3) := by decide +kernel
theorem dX11_grade_6 : decode cX11_grade 6 = .ok (.ifCond .eq 32, 3) := by decide +kernel
theorem dX11_grade_9 : decode cX11_grade 9 = .ok (.iload_n 2, 1) := by decide +kernel
theorem dX11_grade_10 : decode cX11_grade 10 = .ok (.iconst 0, 1) := by decide +kernel
theorem dX11_grade_11 : decode cX11_grade 11 = .ok (.iconst 1, 1) := by decide +kernel
theorem dX11_grade_12 : decode cX11_grade 12 = .ok (.invokestatic 125, 3) := by decide +kernel
theorem dX11_grade_15 : decode cX11_grade 15 = .ok (.ifCond .eq 23, 3) := by decide +kernel
theorem dX11_grade_18 : decode cX11_grade 18 = .ok (.iload_n 3, 1) := by decide +kernel
theorem dX11_grade_19 : decode cX11_grade 19 = .ok (.iconst 0, 1) := by decide +kernel
theorem dX11_grade_20 : decode cX11_grade 20 = .ok (.iconst 2, 1) := by decide +kernel
theorem dX11_grade_21 : decode cX11_grade 21 = .ok (.invokestatic 125, 3) := by decide +kernel
theorem dX11_grade_24 : decode cX11_grade 24 = .ok (.ifCond .eq 14, 3) := by decide +kernel
theorem dX11_grade_27 : decode cX11_grade 27 = .ok (.iload 4, 2) := by decide +kernel
theorem dX11_grade_29 : decode cX11_grade 29 = .ok (.iconst (-1), 1) := by decide +kernel
theorem dX11_grade_30 : decode cX11_grade 30 = .ok (.bipush 15, 2) := by decide +kernel
theorem dX11_grade_32 : decode cX11_grade 32 = .ok (.invokestatic 125, 3) := by decide +kernel
theorem dX11_grade_35 : decode cX11_grade 35 = .ok (.ifCond .ne 5, 3) := by decide +kernel
theorem dX11_grade_38 : decode cX11_grade 38 = .ok (.iconst (-1), 1) := by decide +kernel
theorem dX11_grade_39 : decode cX11_grade 39 = .ok (.ireturn, 1) := by decide +kernel
theorem dX11_grade_40 : decode cX11_grade 40 = .ok (.aload_n 0, 1) := by decide +kernel
theorem dX11_grade_41 : decode cX11_grade 41 = .ok (.getfield 191, 3) := by decide +kernel
theorem dX11_grade_44 : decode cX11_grade 44 = .ok (.ifCond .eq 14, 3) := by decide +kernel
theorem dX11_grade_47 : decode cX11_grade 47 = .ok (.iload 4, 2) := by decide +kernel
theorem dX11_grade_49 : decode cX11_grade 49 = .ok (.aload_n 0, 1) := by decide +kernel
theorem dX11_grade_50 : decode cX11_grade 50 = .ok (.getfield 35, 3) := by decide +kernel
theorem dX11_grade_53 : decode cX11_grade 53 = .ok (.iconst 1, 1) := by decide +kernel
theorem dX11_grade_54 : decode cX11_grade 54 = .ok (.iaload, 1) := by decide +kernel
theorem dX11_grade_55 : decode cX11_grade 55 = .ok (.if_icmp .lt 6, 3) := by decide +kernel
theorem dX11_grade_58 : decode cX11_grade 58 = .ok (.bipush (-2), 2) := by decide +kernel
theorem dX11_grade_60 : decode cX11_grade 60 = .ok (.ireturn, 1) := by decide +kernel
theorem dX11_grade_61 : decode cX11_grade 61 = .ok (.aload_n 0, 1) := by decide +kernel
theorem dX11_grade_62 : decode cX11_grade 62 = .ok (.iload_n 1, 1) := by decide +kernel
theorem dX11_grade_63 : decode cX11_grade 63 = .ok (.iload_n 2, 1) := by decide +kernel
theorem dX11_grade_64 : decode cX11_grade 64 = .ok (.iload_n 3, 1) := by decide +kernel
theorem dX11_grade_65 : decode cX11_grade 65 = .ok (.invokevirtual 228, 3) := by decide +kernel
theorem dX11_grade_68 : decode cX11_grade 68 = .ok (.iconst 1, 1) := by decide +kernel
theorem dX11_grade_69 : decode cX11_grade 69 = .ok (.istore 5, 2) := by decide +kernel
theorem dX11_grade_71 : decode cX11_grade 71 = .ok (.iconst 2, 1) := by decide +kernel
theorem dX11_grade_72 : decode cX11_grade 72 = .ok (.istore 6, 2) := by decide +kernel
theorem dX11_grade_74 : decode cX11_grade 74 = .ok (.iload 6, 2) := by decide +kernel
theorem dX11_grade_76 : decode cX11_grade 76 = .ok (.bipush 50, 2) := by decide +kernel
theorem dX11_grade_78 : decode cX11_grade 78 = .ok (.if_icmp .gt 35, 3) := by decide +kernel
theorem dX11_grade_81 : decode cX11_grade 81 = .ok (.aload_n 0, 1) := by decide +kernel
theorem dX11_grade_82 : decode cX11_grade 82 = .ok (.getfield 98, 3) := by decide +kernel
theorem dX11_grade_85 : decode cX11_grade 85 = .ok (.iload 6, 2) := by decide +kernel
theorem dX11_grade_87 : decode cX11_grade 87 = .ok (.iaload, 1) := by decide +kernel
theorem dX11_grade_88 : decode cX11_grade 88 = .ok (.aload_n 0, 1) := by decide +kernel
theorem dX11_grade_89 : decode cX11_grade 89 = .ok (.getfield 98, 3) := by decide +kernel
theorem dX11_grade_92 : decode cX11_grade 92 = .ok (.iload 5, 2) := by decide +kernel
theorem dX11_grade_94 : decode cX11_grade 94 = .ok (.iaload, 1) := by decide +kernel
theorem dX11_grade_95 : decode cX11_grade 95 = .ok (.if_icmp .ge 8, 3) := by decide +kernel
theorem dX11_grade_98 : decode cX11_grade 98 = .ok (.iload 6, 2) := by decide +kernel
theorem dX11_grade_100 : decode cX11_grade 100 = .ok (.goto 5, 3) := by decide +kernel
theorem dX11_grade_103 : decode cX11_grade 103 = .ok (.iload 5, 2) := by decide +kernel
theorem dX11_grade_105 : decode cX11_grade 105 = .ok (.istore 5, 2) := by decide +kernel
theorem dX11_grade_107 : decode cX11_grade 107 = .ok (.iinc 6 1, 3) := by decide +kernel
theorem dX11_grade_110 : decode cX11_grade 110 = .ok (.goto (-36), 3) := by decide +kernel
theorem dX11_grade_113 : decode cX11_grade 113 = .ok (.aload_n 0, 1) := by decide +kernel
theorem dX11_grade_114 : decode cX11_grade 114 = .ok (.getfield 98, 3) := by decide +kernel
theorem dX11_grade_117 : decode cX11_grade 117 = .ok (.iload 5, 2) := by decide +kernel
theorem dX11_grade_119 : decode cX11_grade 119 = .ok (.iaload, 1) := by decide +kernel
theorem dX11_grade_120 : decode cX11_grade 120 = .ok (.ldc 220, 2) := by decide +kernel
theorem dX11_grade_122 : decode cX11_grade 122 = .ok (.if_icmp .lt 6, 3) := by decide +kernel
theorem dX11_grade_125 : decode cX11_grade 125 = .ok (.bipush (-4), 2) := by decide +kernel
theorem dX11_grade_127 : decode cX11_grade 127 = .ok (.ireturn, 1) := by decide +kernel
theorem dX11_grade_128 : decode cX11_grade 128 = .ok (.iload 4, 2) := by decide +kernel
theorem dX11_grade_130 : decode cX11_grade 130 = .ok (.ifCond .ge 11, 3) := by decide +kernel
theorem dX11_grade_133 : decode cX11_grade 133 = .ok (.aload_n 0, 1) := by decide +kernel
theorem dX11_grade_134 : decode cX11_grade 134 = .ok (.getfield 98, 3) := by decide +kernel
theorem dX11_grade_137 : decode cX11_grade 137 = .ok (.iload 5, 2) := by decide +kernel
theorem dX11_grade_139 : decode cX11_grade 139 = .ok (.iaload, 1) := by decide +kernel
theorem dX11_grade_140 : decode cX11_grade 140 = .ok (.ireturn, 1) := by decide +kernel
theorem dX11_grade_141 : decode cX11_grade 141 = .ok (.iload 5, 2) := by decide +kernel
theorem dX11_grade_143 : decode cX11_grade 143 = .ok (.istore 6, 2) := by decide +kernel
theorem dX11_grade_145 : decode cX11_grade 145 = .ok (.iconst 0, 1) := by decide +kernel
theorem dX11_grade_146 : decode cX11_grade 146 = .ok (.istore 7, 2) := by decide +kernel
theorem dX11_grade_148 : decode cX11_grade 148 = .ok (.iload 7, 2) := by decide +kernel
theorem dX11_grade_150 : decode cX11_grade 150 = .ok (.iload 4, 2) := by decide +kernel
theorem dX11_grade_152 : decode cX11_grade 152 = .ok (.if_icmp .ge 62, 3) := by decide +kernel
theorem dX11_grade_155 : decode cX11_grade 155 = .ok (.iconst 1, 1) := by decide +kernel
theorem dX11_grade_156 : decode cX11_grade 156 = .ok (.istore 8, 2) := by decide +kernel
theorem dX11_grade_158 : decode cX11_grade 158 = .ok (.aload_n 0, 1) := by decide +kernel
theorem dX11_grade_159 : decode cX11_grade 159 = .ok (.getfield 98, 3) := by decide +kernel
theorem dX11_grade_162 : decode cX11_grade 162 = .ok (.bipush 51, 2) := by decide +kernel
theorem dX11_grade_164 : decode cX11_grade 164 = .ok (.iload 7, 2) := by decide +kernel
theorem dX11_grade_166 : decode cX11_grade 166 = .ok (.iconst 1, 1) := by decide +kernel
theorem dX11_grade_167 : decode cX11_grade 167 = .ok (.iadd, 1) := by decide +kernel
theorem dX11_grade_168 : decode cX11_grade 168 = .ok (.imul, 1) := by decide +kernel
theorem dX11_grade_169 : decode cX11_grade 169 = .ok (.iload 8, 2) := by decide +kernel
theorem dX11_grade_171 : decode cX11_grade 171 = .ok (.iadd, 1) := by decide +kernel
theorem dX11_grade_172 : decode cX11_grade 172 = .ok (.iaload, 1) := by decide +kernel
theorem dX11_grade_173 : decode cX11_grade 173 = .ok (.iload 6, 2) := by decide +kernel
theorem dX11_grade_175 : decode cX11_grade 175 = .ok (.iload 8, 2) := by decide +kernel
theorem dX11_grade_177 : decode cX11_grade 177 = .ok (.isub, 1) := by decide +kernel
theorem dX11_grade_178 : decode cX11_grade 178 = .ok (.invokestatic 225, 3) := by decide +kernel
theorem dX11_grade_181 : decode cX11_grade 181 = .ok (.iadd, 1) := by decide +kernel
theorem dX11_grade_182 : decode cX11_grade 182 = .ok (.aload_n 0, 1) := by decide +kernel
theorem dX11_grade_183 : decode cX11_grade 183 = .ok (.getfield 98, 3) := by decide +kernel
theorem dX11_grade_186 : decode cX11_grade 186 = .ok (.bipush 51, 2) := by decide +kernel
theorem dX11_grade_188 : decode cX11_grade 188 = .ok (.iload 7, 2) := by decide +kernel
theorem dX11_grade_190 : decode cX11_grade 190 = .ok (.imul, 1) := by decide +kernel
theorem dX11_grade_191 : decode cX11_grade 191 = .ok (.iload 6, 2) := by decide +kernel
theorem dX11_grade_193 : decode cX11_grade 193 = .ok (.iadd, 1) := by decide +kernel
theorem dX11_grade_194 : decode cX11_grade 194 = .ok (.iaload, 1) := by decide +kernel
theorem dX11_grade_195 : decode cX11_grade 195 = .ok (.if_icmp .eq 9, 3) := by decide +kernel
theorem dX11_grade_198 : decode cX11_grade 198 = .ok (.iinc 8 1, 3) := by decide +kernel
theorem dX11_grade_201 : decode cX11_grade 201 = .ok (.goto (-43), 3) := by decide +kernel
theorem dX11_grade_204 : decode cX11_grade 204 = .ok (.iload 8, 2) := by decide +kernel
theorem dX11_grade_206 : decode cX11_grade 206 = .ok (.istore 6, 2) := by decide +kernel
theorem dX11_grade_208 : decode cX11_grade 208 = .ok (.iinc 7 1, 3) := by decide +kernel
theorem dX11_grade_211 : decode cX11_grade 211 = .ok (.goto (-63), 3) := by decide +kernel
theorem dX11_grade_214 : decode cX11_grade 214 = .ok (.iload 6, 2) := by decide +kernel
theorem dX11_grade_216 : decode cX11_grade 216 = .ok (.ireturn, 1) := by decide +kernel
def LX11_grade_74 (c4 : Int) (k113 : Int → Mem → Option Res) : Nat → Int → Int → Mem → Option Res
  | 0 => fun _ _ _ => none
  | n + 1 => fun x5 x6 s => (if 50 < x6 then
 k113 x5 s
 else
 rd (s 127) x6 816 (fun v12 =>
 rd (s 127) x5 816 (fun v13 =>
 (if v13 ≤ v12 then
 LX11_grade_74 c4 k113 n x5 (wr (x6 + 1)) s
 else
 LX11_grade_74 c4 k113 n x6 (wr (x6 + 1)) s))))
def LX11_grade_158 (c4 : Int) (c6 : Int) (c7 : Int) (k204 : Int → Mem → Option Res) : Nat → Int → Mem → Option Res
  | 0 => fun _ _ => none
  | n + 1 => fun x8 s => rd (s 127) (wr ((wr (51 * (wr (c7 + 1)))) + x8)) 816 (fun v17 =>
 bnd (fX11_size (wr (c6 - x8)) s) (fun r18 s19 =>
 rd (s19 127) (wr ((wr (51 * c7)) + c6)) 816 (fun v20 =>
 (if wr (v17 + r18) = v20 then
 k204 x8 s19
 else
 LX11_grade_158 c4 c6 c7 k204 n (wr (x8 + 1)) s19))))
def LX11_grade_148 (c4 : Int) (k214 : Int → Mem → Option Res) : Nat → Int → Int → Mem → Option Res
  | 0 => fun _ _ _ => none
  | n + 1 => fun x6 x7 s => (if c4 ≤ x7 then
 k214 x6 s
 else
 LX11_grade_158 c4 x6 x7 (fun y22 s21 =>
 LX11_grade_148 c4 k214 n y22 (wr (x7 + 1)) s21) FU 1 s)
def fX11_grade (a1 : Int) (a2 : Int) (a3 : Int) (a4 : Int) (s0 : Mem) : Option Res :=
 bnd (fX11_in a1 0 2 s0) (fun r1 s2 =>
 (if r1 = 0 then
 some ((-1), s2)
 else
 bnd (fX11_in a2 0 1 s2) (fun r3 s4 =>
 (if r3 = 0 then
 some ((-1), s4)
 else
 bnd (fX11_in a3 0 2 s4) (fun r5 s6 =>
 (if r5 = 0 then
 some ((-1), s6)
 else
 bnd (fX11_in a4 (-1) 15 s6) (fun r7 s8 =>
 (if r7 ≠ 0 then
 (if s8 100 19 = 0 then
 some ((-2), s8)
 else
 rd (s8 106) 1 4 (fun v9 =>
 (if a4 < v9 then
 bnd (fX11_laySteps a1 a2 a3 s8) (fun _ s11 =>
 LX11_grade_74 a4 (fun y15 s14 =>
 rd (s14 127) y15 816 (fun v16 =>
 (if v16 < 1000000 then
 (if 0 ≤ a4 then
 LX11_grade_148 a4 (fun y24 s23 =>
 some (y24, s23)) FU y15 0 s14
 else
 rd (s14 127) y15 816 (fun v25 =>
 some (v25, s14)))
 else
 some ((-4), s14)))) FU 1 2 s11)
 else
 some ((-2), s8))))
 else
 some ((-1), s8)))))))))
set_option maxRecDepth 100000 in
set_option maxHeartbeats 4000000 in
theorem jLX11_grade_74 {K : KT} (hq : KI K (some .int)) (c4 : Int) (k113 : Int → Mem → Option Res) (hk113 : ∀ (y5 : Int) (s : Mem), J K rmX11_grade cX11_grade RX11 9 113 [some (.inr (.inr 100)), none, none, none, some (.inl c4), some (.inl y5), none, none, none] [] s (k113 y5 s)) : ∀ (n : Nat) (x5 : Int) (x6 : Int) (s : Mem), J K rmX11_grade cX11_grade RX11 9 74 [some (.inr (.inr 100)), none, none, none, some (.inl c4), some (.inl x5), some (.inl x6), none, none] [] s (LX11_grade_74 c4 k113 n x5 x6 s) := by
  intro n
  induction n with
  | zero => intros; exact J_none
  | succ n ih =>
    intro x5 x6 s
    show J K _ _ _ _ _ _ _ _ (LX11_grade_74 c4 k113 (n + 1) x5 x6 s)
    simp only [LX11_grade_74]
    refine j_iload dX11_grade_74 rfl ?_
    refine j_bipush (v := 50) dX11_grade_76 (by decide +kernel) (inr_d rfl) ?_
    refine j_icmp_gt (tgt := 113) dX11_grade_78 rfl ?_ ?_
    · exact j_msk [true, false, false, false, true, true, false, false, false] (hk113 _ _)
    · refine j_aload_n dX11_grade_81 rfl rfl ?_
      refine j_getR fl_RX11_98 sh_100 rfl dX11_grade_82 ?_
      refine j_iload dX11_grade_85 rfl ?_
      refine j_iald sh_127 dX11_grade_87 (fun v12 => ?_)
      refine j_aload_n dX11_grade_88 rfl rfl ?_
      refine j_getR fl_RX11_98 sh_100 rfl dX11_grade_89 ?_
      refine j_iload dX11_grade_92 rfl ?_
      refine j_iald sh_127 dX11_grade_94 (fun v13 => ?_)
      refine j_icmp_ge (tgt := 103) dX11_grade_95 rfl ?_ ?_
      · refine j_iload dX11_grade_103 rfl ?_
        refine j_istoreE (ls2 := [some (.inr (.inr 100)), none, none, none, some (.inl c4), some (.inl x5), some (.inl x6), none, none]) dX11_grade_105 (by decide) rfl rfl ?_
        refine j_iincE (ls2 := [some (.inr (.inr 100)), none, none, none, some (.inl c4), some (.inl x5), some (.inl (wr (x6 + 1))), none, none]) dX11_grade_107 rfl (by decide) rfl rfl ?_
        refine j_goto (tgt := 74) dX11_grade_110 rfl ?_
        exact j_msk [true, false, false, false, true, true, true, false, false] (ih _ _ _)
      · refine j_iload dX11_grade_98 rfl ?_
        refine j_goto (tgt := 105) dX11_grade_100 rfl ?_
        refine j_istoreE (ls2 := [some (.inr (.inr 100)), none, none, none, some (.inl c4), some (.inl x6), some (.inl x6), none, none]) dX11_grade_105 (by decide) rfl rfl ?_
        refine j_iincE (ls2 := [some (.inr (.inr 100)), none, none, none, some (.inl c4), some (.inl x6), some (.inl (wr (x6 + 1))), none, none]) dX11_grade_107 rfl (by decide) rfl rfl ?_
        refine j_goto (tgt := 74) dX11_grade_110 rfl ?_
        exact j_msk [true, false, false, false, true, true, true, false, false] (ih _ _ _)
set_option maxRecDepth 100000 in
set_option maxHeartbeats 4000000 in
theorem jLX11_grade_158 {K : KT} (hq : KI K (some .int)) (c4 : Int) (c6 : Int) (c7 : Int) (k204 : Int → Mem → Option Res) (hk204 : ∀ (y8 : Int) (s : Mem), J K rmX11_grade cX11_grade RX11 9 204 [some (.inr (.inr 100)), none, none, none, some (.inl c4), none, none, some (.inl c7), some (.inl y8)] [] s (k204 y8 s)) : ∀ (n : Nat) (x8 : Int) (s : Mem), J K rmX11_grade cX11_grade RX11 9 158 [some (.inr (.inr 100)), none, none, none, some (.inl c4), none, some (.inl c6), some (.inl c7), some (.inl x8)] [] s (LX11_grade_158 c4 c6 c7 k204 n x8 s) := by
  intro n
  induction n with
  | zero => intros; exact J_none
  | succ n ih =>
    intro x8 s
    show J K _ _ _ _ _ _ _ _ (LX11_grade_158 c4 c6 c7 k204 (n + 1) x8 s)
    simp only [LX11_grade_158]
    refine j_aload_n dX11_grade_158 rfl rfl ?_
    refine j_getR fl_RX11_98 sh_100 rfl dX11_grade_159 ?_
    refine j_bipush (v := 51) dX11_grade_162 (by decide +kernel) (inr_d rfl) ?_
    refine j_iload dX11_grade_164 rfl ?_
    refine j_iconst dX11_grade_166 (inr_d rfl) ?_
    refine j_iadd dX11_grade_167 ?_
    refine j_imul dX11_grade_168 ?_
    refine j_iload dX11_grade_169 rfl ?_
    refine j_iadd dX11_grade_171 ?_
    refine j_iald sh_127 dX11_grade_172 (fun v17 => ?_)
    refine j_iload dX11_grade_173 rfl ?_
    refine j_iload dX11_grade_175 rfl ?_
    refine j_isub dX11_grade_177 ?_
    refine j_callSi (mX11_size (kl K) (kD K) (kad K) (kcA K) (wr (c6 - x8)) s) cw_RX11_225 ⟨rfl, rfl, by decide, by decide⟩ rfl rfl (Nat.le_of_ble_eq_true rfl) dX11_grade_178 (fun r18 s19 => ?_)
    refine j_iadd dX11_grade_181 ?_
    refine j_aload_n dX11_grade_182 rfl rfl ?_
    refine j_getR fl_RX11_98 sh_100 rfl dX11_grade_183 ?_
    refine j_bipush (v := 51) dX11_grade_186 (by decide +kernel) (inr_d rfl) ?_
    refine j_iload dX11_grade_188 rfl ?_
    refine j_imul dX11_grade_190 ?_
    refine j_iload dX11_grade_191 rfl ?_
    refine j_iadd dX11_grade_193 ?_
    refine j_iald sh_127 dX11_grade_194 (fun v20 => ?_)
    refine j_icmp_eq (tgt := 204) dX11_grade_195 rfl ?_ ?_
    · exact j_msk [true, false, false, false, true, false, false, true, true] (hk204 _ _)
    · refine j_iincE (ls2 := [some (.inr (.inr 100)), none, none, none, some (.inl c4), none, some (.inl c6), some (.inl c7), some (.inl (wr (x8 + 1)))]) dX11_grade_198 rfl (by decide) rfl rfl ?_
      refine j_goto (tgt := 158) dX11_grade_201 rfl ?_
      exact j_msk [true, false, false, false, true, false, true, true, true] (ih _ _)
set_option maxRecDepth 100000 in
set_option maxHeartbeats 4000000 in
theorem jLX11_grade_148 {K : KT} (hq : KI K (some .int)) (c4 : Int) (k214 : Int → Mem → Option Res) (hk214 : ∀ (y6 : Int) (s : Mem), J K rmX11_grade cX11_grade RX11 9 214 [none, none, none, none, none, none, some (.inl y6), none, none] [] s (k214 y6 s)) : ∀ (n : Nat) (x6 : Int) (x7 : Int) (s : Mem), J K rmX11_grade cX11_grade RX11 9 148 [some (.inr (.inr 100)), none, none, none, some (.inl c4), none, some (.inl x6), some (.inl x7), none] [] s (LX11_grade_148 c4 k214 n x6 x7 s) := by
  intro n
  induction n with
  | zero => intros; exact J_none
  | succ n ih =>
    intro x6 x7 s
    show J K _ _ _ _ _ _ _ _ (LX11_grade_148 c4 k214 (n + 1) x6 x7 s)
    simp only [LX11_grade_148]
    refine j_iload dX11_grade_148 rfl ?_
    refine j_iload dX11_grade_150 rfl ?_
    refine j_icmp_ge (tgt := 214) dX11_grade_152 rfl ?_ ?_
    · exact j_msk [false, false, false, false, false, false, true, false, false] (hk214 _ _)
    · refine j_iconst dX11_grade_155 (inr_d rfl) ?_
      refine j_istoreE (ls2 := [some (.inr (.inr 100)), none, none, none, some (.inl c4), none, some (.inl x6), some (.inl x7), some (.inl 1)]) dX11_grade_156 (by decide) rfl rfl ?_
      refine j_msk [true, false, false, false, true, false, true, true, true] (jLX11_grade_158 hq _ _ _ _ (fun y22 s21 => ?_) _ _ _)
      refine j_iload dX11_grade_204 rfl ?_
      refine j_istoreE (ls2 := [some (.inr (.inr 100)), none, none, none, some (.inl c4), none, some (.inl y22), some (.inl x7), some (.inl y22)]) dX11_grade_206 (by decide) rfl rfl ?_
      refine j_iincE (ls2 := [some (.inr (.inr 100)), none, none, none, some (.inl c4), none, some (.inl y22), some (.inl (wr (x7 + 1))), some (.inl y22)]) dX11_grade_208 rfl (by decide) rfl rfl ?_
      refine j_goto (tgt := 148) dX11_grade_211 rfl ?_
      exact j_msk [true, false, false, false, true, false, true, true, false] (ih _ _ _)
set_option maxRecDepth 100000 in
set_option maxHeartbeats 4000000 in
theorem mX11_grade (l : Launch) (D : va_G) (ad : Nat → Nat) (cA : Nat → ClassId) (a1 : Int) (a2 : Int) (a3 : Int) (a4 : Int) (s0 : Mem) : MCi l D ad cA yX11_grade cX11_grade 9 (some .int) rmX11_grade [.inr (.inr 100), .inl a1, .inl a2, .inl a3, .inl a4] s0 (fX11_grade a1 a2 a3 a4 s0) := by
  refine MCi_ofE (own := RX11) (ls := [some (.inr (.inr 100)), some (.inl a1), some (.inl a2), some (.inl a3), some (.inl a4), none, none, none, none]) 4 (by decide +kernel) rfl rfl (fun _ => Nat.le_of_ble_eq_true rfl) (fun K hq => ?_)
  unfold fX11_grade
  refine j_iload_n dX11_grade_0 rfl rfl ?_
  refine j_iconst dX11_grade_1 (inr_d rfl) ?_
  refine j_iconst dX11_grade_2 (inr_d rfl) ?_
  refine j_callSi (mX11_in (kl K) (kD K) (kad K) (kcA K) a1 0 2 s0) cw_RX11_125 ⟨rfl, rfl, by decide, by decide⟩ rfl rfl (Nat.le_of_ble_eq_true rfl) dX11_grade_3 (fun r1 s2 => ?_)
  refine j_if_eq (tgt := 38) dX11_grade_6 rfl ?_ ?_
  · refine j_iconst dX11_grade_38 (inr_d rfl) ?_
    exact j_iret hq dX11_grade_39
  · refine j_iload_n dX11_grade_9 rfl rfl ?_
    refine j_iconst dX11_grade_10 (inr_d rfl) ?_
    refine j_iconst dX11_grade_11 (inr_d rfl) ?_
    refine j_callSi (mX11_in (kl K) (kD K) (kad K) (kcA K) a2 0 1 s2) cw_RX11_125 ⟨rfl, rfl, by decide, by decide⟩ rfl rfl (Nat.le_of_ble_eq_true rfl) dX11_grade_12 (fun r3 s4 => ?_)
    refine j_if_eq (tgt := 38) dX11_grade_15 rfl ?_ ?_
    · refine j_iconst dX11_grade_38 (inr_d rfl) ?_
      exact j_iret hq dX11_grade_39
    · refine j_iload_n dX11_grade_18 rfl rfl ?_
      refine j_iconst dX11_grade_19 (inr_d rfl) ?_
      refine j_iconst dX11_grade_20 (inr_d rfl) ?_
      refine j_callSi (mX11_in (kl K) (kD K) (kad K) (kcA K) a3 0 2 s4) cw_RX11_125 ⟨rfl, rfl, by decide, by decide⟩ rfl rfl (Nat.le_of_ble_eq_true rfl) dX11_grade_21 (fun r5 s6 => ?_)
      refine j_if_eq (tgt := 38) dX11_grade_24 rfl ?_ ?_
      · refine j_iconst dX11_grade_38 (inr_d rfl) ?_
        exact j_iret hq dX11_grade_39
      · refine j_iload dX11_grade_27 rfl ?_
        refine j_iconst dX11_grade_29 (inr_d rfl) ?_
        refine j_bipush (v := 15) dX11_grade_30 (by decide +kernel) (inr_d rfl) ?_
        refine j_callSi (mX11_in (kl K) (kD K) (kad K) (kcA K) a4 (-1) 15 s6) cw_RX11_125 ⟨rfl, rfl, by decide, by decide⟩ rfl rfl (Nat.le_of_ble_eq_true rfl) dX11_grade_32 (fun r7 s8 => ?_)
        refine j_if_ne (tgt := 40) dX11_grade_35 rfl ?_ ?_
        · refine j_aload_n dX11_grade_40 rfl rfl ?_
          refine j_getI fl_RX11_191 sh_100 rfl dX11_grade_41 ?_
          refine j_if_eq (tgt := 58) dX11_grade_44 rfl ?_ ?_
          · refine j_bipush (v := (-2)) dX11_grade_58 (by decide +kernel) (inr_d rfl) ?_
            exact j_iret hq dX11_grade_60
          · refine j_iload dX11_grade_47 rfl ?_
            refine j_aload_n dX11_grade_49 rfl rfl ?_
            refine j_getR fl_RX11_35 sh_100 rfl dX11_grade_50 ?_
            refine j_iconst dX11_grade_53 (inr_d rfl) ?_
            refine j_iald sh_106 dX11_grade_54 (fun v9 => ?_)
            refine j_icmp_lt (tgt := 61) dX11_grade_55 rfl ?_ ?_
            · refine j_aload_n dX11_grade_61 rfl rfl ?_
              refine j_iload_n dX11_grade_62 rfl rfl ?_
              refine j_iload_n dX11_grade_63 rfl rfl ?_
              refine j_iload_n dX11_grade_64 rfl rfl ?_
              refine j_callVv (mX11_laySteps (kl K) (kD K) (kad K) (kcA K) a1 a2 a3 s8) cw_RX11_228 sh_100 rfl ⟨rfl, rfl, by decide, by decide⟩ rfl rfl (Nat.le_of_ble_eq_true rfl) dX11_grade_65 (fun _ s11 => ?_)
              refine j_iconst dX11_grade_68 (inr_d rfl) ?_
              refine j_istoreE (ls2 := [some (.inr (.inr 100)), some (.inl a1), some (.inl a2), some (.inl a3), some (.inl a4), some (.inl 1), none, none, none]) dX11_grade_69 (by decide) rfl rfl ?_
              refine j_iconst dX11_grade_71 (inr_d rfl) ?_
              refine j_istoreE (ls2 := [some (.inr (.inr 100)), some (.inl a1), some (.inl a2), some (.inl a3), some (.inl a4), some (.inl 1), some (.inl 2), none, none]) dX11_grade_72 (by decide) rfl rfl ?_
              refine j_msk [true, false, false, false, true, true, true, false, false] (jLX11_grade_74 hq _ _ (fun y15 s14 => ?_) _ _ _ _)
              refine j_aload_n dX11_grade_113 rfl rfl ?_
              refine j_getR fl_RX11_98 sh_100 rfl dX11_grade_114 ?_
              refine j_iload dX11_grade_117 rfl ?_
              refine j_iald sh_127 dX11_grade_119 (fun v16 => ?_)
              refine j_ldc (v := 1000000) dX11_grade_120 cst_RX11_220 (inr_d rfl) ?_
              refine j_icmp_lt (tgt := 128) dX11_grade_122 rfl ?_ ?_
              · refine j_iload dX11_grade_128 rfl ?_
                refine j_if_ge (tgt := 141) dX11_grade_130 rfl ?_ ?_
                · refine j_iload dX11_grade_141 rfl ?_
                  refine j_istoreE (ls2 := [some (.inr (.inr 100)), none, none, none, some (.inl a4), some (.inl y15), some (.inl y15), none, none]) dX11_grade_143 (by decide) rfl rfl ?_
                  refine j_iconst dX11_grade_145 (inr_d rfl) ?_
                  refine j_istoreE (ls2 := [some (.inr (.inr 100)), none, none, none, some (.inl a4), some (.inl y15), some (.inl y15), some (.inl 0), none]) dX11_grade_146 (by decide) rfl rfl ?_
                  refine j_msk [true, false, false, false, true, false, true, true, false] (jLX11_grade_148 hq _ _ (fun y24 s23 => ?_) _ _ _ _)
                  refine j_iload dX11_grade_214 rfl ?_
                  exact j_iret hq dX11_grade_216
                · refine j_aload_n dX11_grade_133 rfl rfl ?_
                  refine j_getR fl_RX11_98 sh_100 rfl dX11_grade_134 ?_
                  refine j_iload dX11_grade_137 rfl ?_
                  refine j_iald sh_127 dX11_grade_139 (fun v25 => ?_)
                  exact j_iret hq dX11_grade_140
              · refine j_bipush (v := (-4)) dX11_grade_125 (by decide +kernel) (inr_d rfl) ?_
                exact j_iret hq dX11_grade_127
            · refine j_bipush (v := (-2)) dX11_grade_58 (by decide +kernel) (inr_d rfl) ?_
              exact j_iret hq dX11_grade_60
        · refine j_iconst dX11_grade_38 (inr_d rfl) ?_
          exact j_iret hq dX11_grade_39
abbrev rmX11_frameTone : Room := { frames := 3, cells := 0, slots := 0, locals := 71 }
theorem dX11_frameTone_0 : decode cX11_frameTone 0 = .ok (.iload_n 1, 1) := by decide +kernel
theorem dX11_frameTone_1 : decode cX11_frameTone 1 = .ok (.iconst 0, 1) := by decide +kernel
theorem dX11_frameTone_2 : decode cX11_frameTone 2 = .ok (.iconst 2, 1) := by decide +kernel
theorem dX11_frameTone_3 : decode cX11_frameTone 3 = .ok (.invokestatic 125, 3) := by decide +kernel
theorem dX11_frameTone_6 : decode cX11_frameTone 6 = .ok (.ifCond .eq 26, 3) := by decide +kernel
theorem dX11_frameTone_9 : decode cX11_frameTone 9 = .ok (.iload_n 2, 1) := by decide +kernel
theorem dX11_frameTone_10 : decode cX11_frameTone 10 = .ok (.iconst 0, 1) := by decide +kernel
theorem dX11_frameTone_11 : decode cX11_frameTone 11 = .ok (.iconst 1, 1) := by decide +kernel
theorem dX11_frameTone_12 : decode cX11_frameTone 12 = .ok (.invokestatic 125, 3) := by decide +kernel
theorem dX11_frameTone_15 : decode cX11_frameTone 15 = .ok (.ifCond .eq 17, 3) := by decide +kernel
theorem dX11_frameTone_18 : decode cX11_frameTone 18 = .ok (.iload_n 3, 1) := by decide +kernel
theorem dX11_frameTone_19 : decode cX11_frameTone 19 = .ok (.iconst 0, 1) := by decide +kernel
theorem dX11_frameTone_20 : decode cX11_frameTone 20 = .ok (.iconst 2, 1) := by decide +kernel
theorem dX11_frameTone_21 : decode cX11_frameTone 21 = .ok (.invokestatic 125, 3) := by decide +kernel
theorem dX11_frameTone_24 : decode cX11_frameTone 24 = .ok (.ifCond .eq 8, 3) := by decide +kernel
theorem dX11_frameTone_27 : decode cX11_frameTone 27 = .ok (.iload 4, 2) := by decide +kernel
theorem dX11_frameTone_29 : decode cX11_frameTone 29 = .ok (.ifCond .ge 5, 3) := by decide +kernel
theorem dX11_frameTone_32 : decode cX11_frameTone 32 = .ok (.iconst (-1), 1) := by decide +kernel
theorem dX11_frameTone_33 : decode cX11_frameTone 33 = .ok (.ireturn, 1) := by decide +kernel
theorem dX11_frameTone_34 : decode cX11_frameTone 34 = .ok (.aload_n 0, 1) := by decide +kernel
theorem dX11_frameTone_35 : decode cX11_frameTone 35 = .ok (.iload 4, 2) := by decide +kernel
theorem dX11_frameTone_37 : decode cX11_frameTone 37 = .ok (.invokevirtual 204, 3) := by decide +kernel
theorem dX11_frameTone_40 : decode cX11_frameTone 40 = .ok (.ifCond .eq 31, 3) := by decide +kernel
theorem dX11_frameTone_43 : decode cX11_frameTone 43 = .ok (.aload_n 0, 1) := by decide +kernel
theorem dX11_frameTone_44 : decode cX11_frameTone 44 = .ok (.iload_n 1, 1) := by decide +kernel
theorem dX11_frameTone_45 : decode cX11_frameTone 45 = .ok (.iload_n 3, 1) := by decide +kernel
theorem dX11_frameTone_46 : decode cX11_frameTone 46 = .ok (.aload_n 0, 1) := by decide +kernel
theorem dX11_frameTone_47 : decode cX11_frameTone 47 = .ok (.iload_n 3, 1) := by decide +kernel
theorem dX11_frameTone_48 : decode cX11_frameTone 48 = .ok (.invokevirtual 207, 3) := by decide +kernel
theorem dX11_frameTone_51 : decode cX11_frameTone 51 = .ok (.aload_n 0, 1) := by decide +kernel
theorem dX11_frameTone_52 : decode cX11_frameTone 52 = .ok (.getfield 68, 3) := by decide +kernel
theorem dX11_frameTone_55 : decode cX11_frameTone 55 = .ok (.iconst 3, 1) := by decide +kernel
theorem dX11_frameTone_56 : decode cX11_frameTone 56 = .ok (.aload_n 0, 1) := by decide +kernel
theorem dX11_frameTone_57 : decode cX11_frameTone 57 = .ok (.getfield 201, 3) := by decide +kernel
theorem dX11_frameTone_60 : decode cX11_frameTone 60 = .ok (.imul, 1) := by decide +kernel
theorem dX11_frameTone_61 : decode cX11_frameTone 61 = .ok (.iload_n 3, 1) := by decide +kernel
theorem dX11_frameTone_62 : decode cX11_frameTone 62 = .ok (.iadd, 1) := by decide +kernel
theorem dX11_frameTone_63 : decode cX11_frameTone 63 = .ok (.iaload, 1) := by decide +kernel
theorem dX11_frameTone_64 : decode cX11_frameTone 64 = .ok (.iload_n 2, 1) := by decide +kernel
theorem dX11_frameTone_65 : decode cX11_frameTone 65 = .ok (.invokevirtual 152, 3) := by decide +kernel
theorem dX11_frameTone_68 : decode cX11_frameTone 68 = .ok (.goto 5, 3) := by decide +kernel
theorem dX11_frameTone_71 : decode cX11_frameTone 71 = .ok (.bipush (-2), 2) := by decide +kernel
theorem dX11_frameTone_73 : decode cX11_frameTone 73 = .ok (.ireturn, 1) := by decide +kernel
def fX11_frameTone (a1 : Int) (a2 : Int) (a3 : Int) (a4 : Int) (s0 : Mem) : Option Res :=
 bnd (fX11_in a1 0 2 s0) (fun r1 s2 =>
 (if r1 = 0 then
 some ((-1), s2)
 else
 bnd (fX11_in a2 0 1 s2) (fun r3 s4 =>
 (if r3 = 0 then
 some ((-1), s4)
 else
 bnd (fX11_in a3 0 2 s4) (fun r5 s6 =>
 (if r5 = 0 then
 some ((-1), s6)
 else
 (if 0 ≤ a4 then
 bnd (fX11_find a4 s6) (fun r7 s8 =>
 (if r7 = 0 then
 some ((-2), s8)
 else
 bnd (fX11_lightHere a3 s8) (fun r9 s10 =>
 rd (s10 117) (wr ((wr (3 * (s10 100 35))) + a3)) 144 (fun v11 =>
 bnd (fX11_printed a1 a3 r9 v11 a2 s10) (fun r12 s13 =>
 some (r12, s13))))))
 else
 some ((-1), s6))))))))
set_option maxRecDepth 100000 in
set_option maxHeartbeats 4000000 in
theorem mX11_frameTone (l : Launch) (D : va_G) (ad : Nat → Nat) (cA : Nat → ClassId) (a1 : Int) (a2 : Int) (a3 : Int) (a4 : Int) (s0 : Mem) : MCi l D ad cA yX11_frameTone cX11_frameTone 5 (some .int) rmX11_frameTone [.inr (.inr 100), .inl a1, .inl a2, .inl a3, .inl a4] s0 (fX11_frameTone a1 a2 a3 a4 s0) := by
  refine MCi_ofE (own := RX11) (ls := [some (.inr (.inr 100)), some (.inl a1), some (.inl a2), some (.inl a3), some (.inl a4)]) 0 (by decide +kernel) rfl rfl (fun _ => Nat.le_of_ble_eq_true rfl) (fun K hq => ?_)
  unfold fX11_frameTone
  refine j_iload_n dX11_frameTone_0 rfl rfl ?_
  refine j_iconst dX11_frameTone_1 (inr_d rfl) ?_
  refine j_iconst dX11_frameTone_2 (inr_d rfl) ?_
  refine j_callSi (mX11_in (kl K) (kD K) (kad K) (kcA K) a1 0 2 s0) cw_RX11_125 ⟨rfl, rfl, by decide, by decide⟩ rfl rfl (Nat.le_of_ble_eq_true rfl) dX11_frameTone_3 (fun r1 s2 => ?_)
  refine j_if_eq (tgt := 32) dX11_frameTone_6 rfl ?_ ?_
  · refine j_iconst dX11_frameTone_32 (inr_d rfl) ?_
    exact j_iret hq dX11_frameTone_33
  · refine j_iload_n dX11_frameTone_9 rfl rfl ?_
    refine j_iconst dX11_frameTone_10 (inr_d rfl) ?_
    refine j_iconst dX11_frameTone_11 (inr_d rfl) ?_
    refine j_callSi (mX11_in (kl K) (kD K) (kad K) (kcA K) a2 0 1 s2) cw_RX11_125 ⟨rfl, rfl, by decide, by decide⟩ rfl rfl (Nat.le_of_ble_eq_true rfl) dX11_frameTone_12 (fun r3 s4 => ?_)
    refine j_if_eq (tgt := 32) dX11_frameTone_15 rfl ?_ ?_
    · refine j_iconst dX11_frameTone_32 (inr_d rfl) ?_
      exact j_iret hq dX11_frameTone_33
    · refine j_iload_n dX11_frameTone_18 rfl rfl ?_
      refine j_iconst dX11_frameTone_19 (inr_d rfl) ?_
      refine j_iconst dX11_frameTone_20 (inr_d rfl) ?_
      refine j_callSi (mX11_in (kl K) (kD K) (kad K) (kcA K) a3 0 2 s4) cw_RX11_125 ⟨rfl, rfl, by decide, by decide⟩ rfl rfl (Nat.le_of_ble_eq_true rfl) dX11_frameTone_21 (fun r5 s6 => ?_)
      refine j_if_eq (tgt := 32) dX11_frameTone_24 rfl ?_ ?_
      · refine j_iconst dX11_frameTone_32 (inr_d rfl) ?_
        exact j_iret hq dX11_frameTone_33
      · refine j_iload dX11_frameTone_27 rfl ?_
        refine j_if_ge (tgt := 34) dX11_frameTone_29 rfl ?_ ?_
        · refine j_aload_n dX11_frameTone_34 rfl rfl ?_
          refine j_iload dX11_frameTone_35 rfl ?_
          refine j_callVi (mX11_find (kl K) (kD K) (kad K) (kcA K) a4 s6) cw_RX11_204 sh_100 rfl ⟨rfl, rfl, by decide, by decide⟩ rfl rfl (Nat.le_of_ble_eq_true rfl) dX11_frameTone_37 (fun r7 s8 => ?_)
          refine j_if_eq (tgt := 71) dX11_frameTone_40 rfl ?_ ?_
          · refine j_bipush (v := (-2)) dX11_frameTone_71 (by decide +kernel) (inr_d rfl) ?_
            exact j_iret hq dX11_frameTone_73
          · refine j_aload_n dX11_frameTone_43 rfl rfl ?_
            refine j_iload_n dX11_frameTone_44 rfl rfl ?_
            refine j_iload_n dX11_frameTone_45 rfl rfl ?_
            refine j_aload_n dX11_frameTone_46 rfl rfl ?_
            refine j_iload_n dX11_frameTone_47 rfl rfl ?_
            refine j_callVi (mX11_lightHere (kl K) (kD K) (kad K) (kcA K) a3 s8) cw_RX11_207 sh_100 rfl ⟨rfl, rfl, by decide, by decide⟩ rfl rfl (Nat.le_of_ble_eq_true rfl) dX11_frameTone_48 (fun r9 s10 => ?_)
            refine j_aload_n dX11_frameTone_51 rfl rfl ?_
            refine j_getR fl_RX11_68 sh_100 rfl dX11_frameTone_52 ?_
            refine j_iconst dX11_frameTone_55 (inr_d rfl) ?_
            refine j_aload_n dX11_frameTone_56 rfl rfl ?_
            refine j_getI fl_RX11_201 sh_100 rfl dX11_frameTone_57 ?_
            refine j_imul dX11_frameTone_60 ?_
            refine j_iload_n dX11_frameTone_61 rfl rfl ?_
            refine j_iadd dX11_frameTone_62 ?_
            refine j_iald sh_117 dX11_frameTone_63 (fun v11 => ?_)
            refine j_iload_n dX11_frameTone_64 rfl rfl ?_
            refine j_callVi (mX11_printed (kl K) (kD K) (kad K) (kcA K) a1 a3 r9 v11 a2 s10) cw_RX11_152 sh_100 rfl ⟨rfl, rfl, by decide, by decide⟩ rfl rfl (Nat.le_of_ble_eq_true rfl) dX11_frameTone_65 (fun r12 s13 => ?_)
            refine j_goto (tgt := 73) dX11_frameTone_68 rfl ?_
            exact j_iret hq dX11_frameTone_73
        · refine j_iconst dX11_frameTone_32 (inr_d rfl) ?_
          exact j_iret hq dX11_frameTone_33
abbrev rmX11_strip : Room := { frames := 1, cells := 0, slots := 0, locals := 22 }
theorem dX11_strip_0 : decode cX11_strip 0 = .ok (.iload_n 1, 1) := by decide +kernel
theorem dX11_strip_1 : decode cX11_strip 1 = .ok (.iconst 0, 1) := by decide +kernel
theorem dX11_strip_2 : decode cX11_strip 2 = .ok (.bipush 99, 2) := by decide +kernel
theorem dX11_strip_4 : decode cX11_strip 4 = .ok (.invokestatic 125, 3) := by decide +kernel
theorem dX11_strip_7 : decode cX11_strip 7 = .ok (.ifCond .eq 29, 3) := by decide +kernel
theorem dX11_strip_10 : decode cX11_strip 10 = .ok (.iload_n 2, 1) := by decide +kernel
theorem dX11_strip_11 : decode cX11_strip 11 = .ok (.iconst 0, 1) := by decide +kernel
theorem dX11_strip_12 : decode cX11_strip 12 = .ok (.iconst 2, 1) := by decide +kernel
theorem dX11_strip_13 : decode cX11_strip 13 = .ok (.invokestatic 125, 3) := by decide +kernel
theorem dX11_strip_16 : decode cX11_strip 16 = .ok (.ifCond .eq 20, 3) := by decide +kernel
theorem dX11_strip_19 : decode cX11_strip 19 = .ok (.iload_n 3, 1) := by decide +kernel
theorem dX11_strip_20 : decode cX11_strip 20 = .ok (.bipush (-10), 2) := by decide +kernel
theorem dX11_strip_22 : decode cX11_strip 22 = .ok (.bipush 10, 2) := by decide +kernel
theorem dX11_strip_24 : decode cX11_strip 24 = .ok (.invokestatic 125, 3) := by decide +kernel
theorem dX11_strip_27 : decode cX11_strip 27 = .ok (.ifCond .ne 11, 3) := by decide +kernel
theorem dX11_strip_30 : decode cX11_strip 30 = .ok (.iload_n 3, 1) := by decide +kernel
theorem dX11_strip_31 : decode cX11_strip 31 = .ok (.bipush 100, 2) := by decide +kernel
theorem dX11_strip_33 : decode cX11_strip 33 = .ok (.if_icmp .eq 5, 3) := by decide +kernel
theorem dX11_strip_36 : decode cX11_strip 36 = .ok (.iconst (-1), 1) := by decide +kernel
theorem dX11_strip_37 : decode cX11_strip 37 = .ok (.ireturn, 1) := by decide +kernel
theorem dX11_strip_38 : decode cX11_strip 38 = .ok (.aload_n 0, 1) := by decide +kernel
theorem dX11_strip_39 : decode cX11_strip 39 = .ok (.getfield 232, 3) := by decide +kernel
theorem dX11_strip_42 : decode cX11_strip 42 = .ok (.bipush 20, 2) := by decide +kernel
theorem dX11_strip_44 : decode cX11_strip 44 = .ok (.if_icmp .ne 6, 3) := by decide +kernel
theorem dX11_strip_47 : decode cX11_strip 47 = .ok (.bipush (-3), 2) := by decide +kernel
theorem dX11_strip_49 : decode cX11_strip 49 = .ok (.ireturn, 1) := by decide +kernel
theorem dX11_strip_50 : decode cX11_strip 50 = .ok (.aload_n 0, 1) := by decide +kernel
theorem dX11_strip_51 : decode cX11_strip 51 = .ok (.getfield 101, 3) := by decide +kernel
theorem dX11_strip_54 : decode cX11_strip 54 = .ok (.aload_n 0, 1) := by decide +kernel
theorem dX11_strip_55 : decode cX11_strip 55 = .ok (.getfield 232, 3) := by decide +kernel
theorem dX11_strip_58 : decode cX11_strip 58 = .ok (.iload_n 1, 1) := by decide +kernel
theorem dX11_strip_59 : decode cX11_strip 59 = .ok (.iastore, 1) := by decide +kernel
theorem dX11_strip_60 : decode cX11_strip 60 = .ok (.aload_n 0, 1) := by decide +kernel
theorem dX11_strip_61 : decode cX11_strip 61 = .ok (.getfield 104, 3) := by decide +kernel
theorem dX11_strip_64 : decode cX11_strip 64 = .ok (.aload_n 0, 1) := by decide +kernel
theorem dX11_strip_65 : decode cX11_strip 65 = .ok (.getfield 232, 3) := by decide +kernel
theorem dX11_strip_68 : decode cX11_strip 68 = .ok (.iload_n 2, 1) := by decide +kernel
theorem dX11_strip_69 : decode cX11_strip 69 = .ok (.iastore, 1) := by decide +kernel
theorem dX11_strip_70 : decode cX11_strip 70 = .ok (.aload_n 0, 1) := by decide +kernel
theorem dX11_strip_71 : decode cX11_strip 71 = .ok (.getfield 107, 3) := by decide +kernel
theorem dX11_strip_74 : decode cX11_strip 74 = .ok (.aload_n 0, 1) := by decide +kernel
theorem dX11_strip_75 : decode cX11_strip 75 = .ok (.getfield 232, 3) := by decide +kernel
theorem dX11_strip_78 : decode cX11_strip 78 = .ok (.iload_n 3, 1) := by decide +kernel
theorem dX11_strip_79 : decode cX11_strip 79 = .ok (.iastore, 1) := by decide +kernel
theorem dX11_strip_80 : decode cX11_strip 80 = .ok (.aload_n 0, 1) := by decide +kernel
theorem dX11_strip_81 : decode cX11_strip 81 = .ok (.dup, 1) := by decide +kernel
theorem dX11_strip_82 : decode cX11_strip 82 = .ok (.getfield 232, 3) := by decide +kernel
theorem dX11_strip_85 : decode cX11_strip 85 = .ok (.iconst 1, 1) := by decide +kernel
theorem dX11_strip_86 : decode cX11_strip 86 = .ok (.iadd, 1) := by decide +kernel
theorem dX11_strip_87 : decode cX11_strip 87 = .ok (.putfield 232, 3) := by decide +kernel
theorem dX11_strip_90 : decode cX11_strip 90 = .ok (.aload_n 0, 1) := by decide +kernel
theorem dX11_strip_91 : decode cX11_strip 91 = .ok (.getfield 232, 3) := by decide +kernel
theorem dX11_strip_94 : decode cX11_strip 94 = .ok (.ireturn, 1) := by decide +kernel
def fX11_strip (a1 : Int) (a2 : Int) (a3 : Int) (s0 : Mem) : Option Res :=
 bnd (fX11_in a1 0 99 s0) (fun r1 s2 =>
 (if r1 = 0 then
 some ((-1), s2)
 else
 bnd (fX11_in a2 0 2 s2) (fun r3 s4 =>
 (if r3 = 0 then
 some ((-1), s4)
 else
 bnd (fX11_in a3 (-10) 10 s4) (fun r5 s6 =>
 jn (fun (s7 : Mem) =>
 (if s7 100 38 ≠ 20 then
 ST s7 128 (s7 100 38) 20 a1 (fun s8 =>
 ST s8 129 (s8 100 38) 20 a2 (fun s9 =>
 ST s9 130 (s9 100 38) 20 a3 (fun s10 =>
 lt (up s10 100 38 (wr ((s10 100 38) + 1))) (fun s11 =>
 some (s11 100 38, s11)))))
 else
 some ((-3), s7))) (fun k38 =>
 (if r5 ≠ 0 then
 k38 s6
 else
 (if a3 = 100 then
 k38 s6
 else
 some ((-1), s6)))))))))
set_option maxRecDepth 100000 in
set_option maxHeartbeats 4000000 in
theorem mX11_strip (l : Launch) (D : va_G) (ad : Nat → Nat) (cA : Nat → ClassId) (a1 : Int) (a2 : Int) (a3 : Int) (s0 : Mem) : MCi l D ad cA yX11_strip cX11_strip 4 (some .int) rmX11_strip [.inr (.inr 100), .inl a1, .inl a2, .inl a3] s0 (fX11_strip a1 a2 a3 s0) := by
  refine MCi_ofE (own := RX11) (ls := [some (.inr (.inr 100)), some (.inl a1), some (.inl a2), some (.inl a3)]) 0 (by decide +kernel) rfl rfl (fun _ => Nat.le_of_ble_eq_true rfl) (fun K hq => ?_)
  unfold fX11_strip
  refine j_iload_n dX11_strip_0 rfl rfl ?_
  refine j_iconst dX11_strip_1 (inr_d rfl) ?_
  refine j_bipush (v := 99) dX11_strip_2 (by decide +kernel) (inr_d rfl) ?_
  refine j_callSi (mX11_in (kl K) (kD K) (kad K) (kcA K) a1 0 99 s0) cw_RX11_125 ⟨rfl, rfl, by decide, by decide⟩ rfl rfl (Nat.le_of_ble_eq_true rfl) dX11_strip_4 (fun r1 s2 => ?_)
  refine j_if_eq (tgt := 36) dX11_strip_7 rfl ?_ ?_
  · refine j_iconst dX11_strip_36 (inr_d rfl) ?_
    exact j_iret hq dX11_strip_37
  · refine j_iload_n dX11_strip_10 rfl rfl ?_
    refine j_iconst dX11_strip_11 (inr_d rfl) ?_
    refine j_iconst dX11_strip_12 (inr_d rfl) ?_
    refine j_callSi (mX11_in (kl K) (kD K) (kad K) (kcA K) a2 0 2 s2) cw_RX11_125 ⟨rfl, rfl, by decide, by decide⟩ rfl rfl (Nat.le_of_ble_eq_true rfl) dX11_strip_13 (fun r3 s4 => ?_)
    refine j_if_eq (tgt := 36) dX11_strip_16 rfl ?_ ?_
    · refine j_iconst dX11_strip_36 (inr_d rfl) ?_
      exact j_iret hq dX11_strip_37
    · refine j_iload_n dX11_strip_19 rfl rfl ?_
      refine j_bipush (v := (-10)) dX11_strip_20 (by decide +kernel) (inr_d rfl) ?_
      refine j_bipush (v := 10) dX11_strip_22 (by decide +kernel) (inr_d rfl) ?_
      refine j_callSi (mX11_in (kl K) (kD K) (kad K) (kcA K) a3 (-10) 10 s4) cw_RX11_125 ⟨rfl, rfl, by decide, by decide⟩ rfl rfl (Nat.le_of_ble_eq_true rfl) dX11_strip_24 (fun r5 s6 => ?_)
      refine j_jn (fun k38 => ∀ (s7 : Mem), J K rmX11_strip cX11_strip RX11 4 38 [some (.inr (.inr 100)), some (.inl a1), some (.inl a2), some (.inl a3)] [] s7 (k38 s7)) (fun s7 => ?_) (fun k38 hk38 => ?_)
      · refine j_aload_n dX11_strip_38 rfl rfl ?_
        refine j_getI fl_RX11_232 sh_100 rfl dX11_strip_39 ?_
        refine j_bipush (v := 20) dX11_strip_42 (by decide +kernel) (inr_d rfl) ?_
        refine j_icmp_ne (tgt := 50) dX11_strip_44 rfl ?_ ?_
        · refine j_aload_n dX11_strip_50 rfl rfl ?_
          refine j_getR fl_RX11_101 sh_100 rfl dX11_strip_51 ?_
          refine j_aload_n dX11_strip_54 rfl rfl ?_
          refine j_getI fl_RX11_232 sh_100 rfl dX11_strip_55 ?_
          refine j_iload_n dX11_strip_58 rfl rfl ?_
          refine j_iast sh_128 dX11_strip_59 (fun s8 => ?_)
          refine j_aload_n dX11_strip_60 rfl rfl ?_
          refine j_getR fl_RX11_104 sh_100 rfl dX11_strip_61 ?_
          refine j_aload_n dX11_strip_64 rfl rfl ?_
          refine j_getI fl_RX11_232 sh_100 rfl dX11_strip_65 ?_
          refine j_iload_n dX11_strip_68 rfl rfl ?_
          refine j_iast sh_129 dX11_strip_69 (fun s9 => ?_)
          refine j_aload_n dX11_strip_70 rfl rfl ?_
          refine j_getR fl_RX11_107 sh_100 rfl dX11_strip_71 ?_
          refine j_aload_n dX11_strip_74 rfl rfl ?_
          refine j_getI fl_RX11_232 sh_100 rfl dX11_strip_75 ?_
          refine j_iload_n dX11_strip_78 rfl rfl ?_
          refine j_iast sh_130 dX11_strip_79 (fun s10 => ?_)
          refine j_aload_n dX11_strip_80 rfl rfl ?_
          refine j_dup rfl dX11_strip_81 ?_
          refine j_getI fl_RX11_232 sh_100 rfl dX11_strip_82 ?_
          refine j_iconst dX11_strip_85 (inr_d rfl) ?_
          refine j_iadd dX11_strip_86 ?_
          refine j_putI fp_RX11_232 sh_100 rfl dX11_strip_87 (fun s11 => ?_)
          refine j_aload_n dX11_strip_90 rfl rfl ?_
          refine j_getI fl_RX11_232 sh_100 rfl dX11_strip_91 ?_
          exact j_iret hq dX11_strip_94
        · refine j_bipush (v := (-3)) dX11_strip_47 (by decide +kernel) (inr_d rfl) ?_
          exact j_iret hq dX11_strip_49
      refine j_if_ne (tgt := 38) dX11_strip_27 rfl ?_ ?_
      · exact j_msk [true, true, true, true] (hk38 _)
      · refine j_iload_n dX11_strip_30 rfl rfl ?_
        refine j_bipush (v := 100) dX11_strip_31 (by decide +kernel) (inr_d rfl) ?_
        refine j_icmp_eq (tgt := 38) dX11_strip_33 rfl ?_ ?_
        · exact j_msk [true, true, true, true] (hk38 _)
        · refine j_iconst dX11_strip_36 (inr_d rfl) ?_
          exact j_iret hq dX11_strip_37
abbrev rmX11_noStrips : Room := { frames := 0, cells := 0, slots := 0, locals := 0 }
theorem dX11_noStrips_0 : decode cX11_noStrips 0 = .ok (.aload_n 0, 1) := by decide +kernel
theorem dX11_noStrips_1 : decode cX11_noStrips 1 = .ok (.getfield 232, 3) := by decide +kernel
theorem dX11_noStrips_4 : decode cX11_noStrips 4 = .ok (.istore_n 1, 1) := by decide +kernel
theorem dX11_noStrips_5 : decode cX11_noStrips 5 = .ok (.aload_n 0, 1) := by decide +kernel
theorem dX11_noStrips_6 : decode cX11_noStrips 6 = .ok (.iconst 0, 1) := by decide +kernel
theorem dX11_noStrips_7 : decode cX11_noStrips 7 = .ok (.putfield 232, 3) := by decide +kernel
theorem dX11_noStrips_10 : decode cX11_noStrips 10 = .ok (.iload_n 1, 1) := by decide +kernel
theorem dX11_noStrips_11 : decode cX11_noStrips 11 = .ok (.ireturn, 1) := by decide +kernel
def fX11_noStrips (s0 : Mem) : Option Res :=
 lt (s0 100 38) (fun v1 =>
 lt (up s0 100 38 0) (fun s2 =>
 some (v1, s2)))
set_option maxRecDepth 100000 in
set_option maxHeartbeats 4000000 in
theorem mX11_noStrips (l : Launch) (D : va_G) (ad : Nat → Nat) (cA : Nat → ClassId) (s0 : Mem) : MCi l D ad cA yX11_noStrips cX11_noStrips 2 (some .int) rmX11_noStrips [.inr (.inr 100)] s0 (fX11_noStrips s0) := by
  refine MCi_ofE (own := RX11) (ls := [some (.inr (.inr 100)), none]) 1 (by decide +kernel) rfl rfl (fun _ => Nat.le_of_ble_eq_true rfl) (fun K hq => ?_)
  unfold fX11_noStrips
  refine j_aload_n dX11_noStrips_0 rfl rfl ?_
  refine j_getI fl_RX11_232 sh_100 rfl dX11_noStrips_1 ?_
  refine j_ltv (fun v1 => ?_)
  refine j_istore_nE (ls2 := [some (.inr (.inr 100)), some (.inl v1)]) dX11_noStrips_4 rfl (by decide) rfl rfl ?_
  refine j_aload_n dX11_noStrips_5 rfl rfl ?_
  refine j_iconst dX11_noStrips_6 (inr_d rfl) ?_
  refine j_putI fp_RX11_232 sh_100 rfl dX11_noStrips_7 (fun s2 => ?_)
  refine j_iload_n dX11_noStrips_10 rfl rfl ?_
  exact j_iret hq dX11_noStrips_11
