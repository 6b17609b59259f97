abbrev rmX6_framesOf : Room := { frames := 0, cells := 0, slots := 0, locals := 0 }
theorem dX6_framesOf_0 : decode cX6_framesOf 0 = .ok (.aload_n 0, 1) := by decide +kernel
theorem dX6_framesOf_1 : decode cX6_framesOf 1 = .ok (.getfield 9, 3) := by decide +kernel
theorem dX6_framesOf_4 : decode cX6_framesOf 4 = .ok (.iload_n 1, 1) := by decide +kernel
theorem dX6_framesOf_5 : decode cX6_framesOf 5 = .ok (.iconst 1, 1) := by decide +kernel
theorem dX6_framesOf_6 : decode cX6_framesOf 6 = .ok (.iadd, 1) := by decide +kernel
theorem dX6_framesOf_7 : decode cX6_framesOf 7 = .ok (.iaload, 1) := by decide +kernel
theorem dX6_framesOf_8 : decode cX6_framesOf 8 = .ok (.aload_n 0, 1) := by decide +kernel
theorem dX6_framesOf_9 : decode cX6_framesOf 9 = .ok (.getfield 9, 3) := by decide +kernel
theorem dX6_framesOf_12 : decode cX6_framesOf 12 = .ok (.iload_n 1, 1) := by decide +kernel
theorem dX6_framesOf_13 : decode cX6_framesOf 13 = .ok (.iaload, 1) := by decide +kernel
theorem dX6_framesOf_14 : decode cX6_framesOf 14 = .ok (.isub, 1) := by decide +kernel
theorem dX6_framesOf_15 : decode cX6_framesOf 15 = .ok (.ireturn, 1) := by decide +kernel
def fX6_framesOf (t0 : Nat) (a1 : Int) (s0 : Mem) : Option Res :=
 rd (s0 (t0 + 1)) (wr (a1 + 1)) 17 (fun v1 =>
 rd (s0 (t0 + 1)) a1 17 (fun v2 =>
 some (wr (v1 - v2), s0)))
set_option maxRecDepth 100000 in
set_option maxHeartbeats 4000000 in
theorem mX6_framesOf (l : Launch) (D : va_G) (ad : Nat → Nat) (cA : Nat → ClassId) (t0 : Nat) (h0 : isSc t0) (a1 : Int) (s0 : Mem) : MCi l D ad cA yX6_framesOf cX6_framesOf 2 (some .int) rmX6_framesOf [.inr (.inr t0), .inl a1] s0 (fX6_framesOf t0 a1 s0) := by
  refine MCi_ofE (own := RX6) (ls := [some (.inr (.inr t0)), some (.inl a1)]) 0 (by decide +kernel) rfl rfl (fun _ => Nat.le_of_ble_eq_true rfl) (fun K hq => ?_)
  unfold fX6_framesOf
  refine j_aload_n dX6_framesOf_0 rfl rfl ?_
  refine j_getR fl_RX6_9 (sc_o h0) rfl dX6_framesOf_1 ?_
  refine j_iload_n dX6_framesOf_4 rfl rfl ?_
  refine j_iconst dX6_framesOf_5 (inr_d rfl) ?_
  refine j_iadd dX6_framesOf_6 ?_
  refine j_iald (sc_2 h0) dX6_framesOf_7 (fun v1 => ?_)
  refine j_aload_n dX6_framesOf_8 rfl rfl ?_
  refine j_getR fl_RX6_9 (sc_o h0) rfl dX6_framesOf_9 ?_
  refine j_iload_n dX6_framesOf_12 rfl rfl ?_
  refine j_iald (sc_2 h0) dX6_framesOf_13 (fun v2 => ?_)
  refine j_isub dX6_framesOf_14 ?_
  exact j_iret hq dX6_framesOf_15
abbrev rmX6_isInFade : Room := { frames := 1, cells := 0, slots := 0, locals := 21 }
theorem dX6_isInFade_0 : decode cX6_isInFade 0 = .ok (.iload_n 2, 1) := by decide +kernel
theorem dX6_isInFade_1 : decode cX6_isInFade 1 = .ok (.aload_n 0, 1) := by decide +kernel
theorem dX6_isInFade_2 : decode cX6_isInFade 2 = .ok (.iload_n 1, 1) := by decide +kernel
theorem dX6_isInFade_3 : decode cX6_isInFade 3 = .ok (.invokevirtual 69, 3) := by decide +kernel
theorem dX6_isInFade_6 : decode cX6_isInFade 6 = .ok (.aload_n 0, 1) := by decide +kernel
theorem dX6_isInFade_7 : decode cX6_isInFade 7 = .ok (.getfield 18, 3) := by decide +kernel
theorem dX6_isInFade_10 : decode cX6_isInFade 10 = .ok (.iload_n 1, 1) := by decide +kernel
theorem dX6_isInFade_11 : decode cX6_isInFade 11 = .ok (.iaload, 1) := by decide +kernel
theorem dX6_isInFade_12 : decode cX6_isInFade 12 = .ok (.isub, 1) := by decide +kernel
theorem dX6_isInFade_13 : decode cX6_isInFade 13 = .ok (.if_icmp .lt 7, 3) := by decide +kernel
theorem dX6_isInFade_16 : decode cX6_isInFade 16 = .ok (.iconst 1, 1) := by decide +kernel
theorem dX6_isInFade_17 : decode cX6_isInFade 17 = .ok (.goto 4, 3) := by decide +kernel
theorem dX6_isInFade_20 : decode cX6_isInFade 20 = .ok (.iconst 0, 1) := by decide +kernel
theorem dX6_isInFade_21 : decode cX6_isInFade 21 = .ok (.ireturn, 1) := by decide +kernel
def fX6_isInFade (t0 : Nat) (a1 : Int) (a2 : Int) (s0 : Mem) : Option Res :=
 bnd (fX6_framesOf t0 a1 s0) (fun r1 s2 =>
 rd (s2 (t0 + 3)) a1 16 (fun v3 =>
 (if a2 < wr (r1 - v3) then
 zr 0 s2
 else
 zr 1 s2)))
set_option maxRecDepth 100000 in
set_option maxHeartbeats 4000000 in
theorem mX6_isInFade (l : Launch) (D : va_G) (ad : Nat → Nat) (cA : Nat → ClassId) (t0 : Nat) (h0 : isSc t0) (a1 : Int) (a2 : Int) (s0 : Mem) : MCi l D ad cA yX6_isInFade cX6_isInFade 3 (some .boolean) rmX6_isInFade [.inr (.inr t0), .inl a1, .inl a2] s0 (fX6_isInFade t0 a1 a2 s0) := by
  refine MCi_ofE (own := RX6) (ls := [some (.inr (.inr t0)), some (.inl a1), some (.inl a2)]) 0 (by decide +kernel) rfl rfl (fun _ => Nat.le_of_ble_eq_true rfl) (fun K hq => ?_)
  unfold fX6_isInFade
  refine j_iload_n dX6_isInFade_0 rfl rfl ?_
  refine j_aload_n dX6_isInFade_1 rfl rfl ?_
  refine j_iload_n dX6_isInFade_2 rfl rfl ?_
  refine j_callVi (mX6_framesOf (kl K) (kD K) (kad K) (kcA K) t0 h0 a1 s0) cw_RX6_69 (sc_o h0) rfl ⟨rfl, rfl, by decide, by decide⟩ rfl rfl (Nat.le_of_ble_eq_true rfl) dX6_isInFade_3 (fun r1 s2 => ?_)
  refine j_aload_n dX6_isInFade_6 rfl rfl ?_
  refine j_getR fl_RX6_18 (sc_o h0) rfl dX6_isInFade_7 ?_
  refine j_iload_n dX6_isInFade_10 rfl rfl ?_
  refine j_iald (sc_4 h0) dX6_isInFade_11 (fun v3 => ?_)
  refine j_isub dX6_isInFade_12 ?_
  refine j_icmp_lt (tgt := 20) dX6_isInFade_13 rfl ?_ ?_
  · refine j_iconst dX6_isInFade_20 (inr_d rfl) ?_
    exact j_zret hq dX6_isInFade_21
  · refine j_iconst dX6_isInFade_16 (inr_d rfl) ?_
    refine j_goto (tgt := 21) dX6_isInFade_17 rfl ?_
    exact j_zret hq dX6_isInFade_21
abbrev rmX6_lightIn : Room := { frames := 2, cells := 0, slots := 0, locals := 43 }
theorem dX6_lightIn_0 : decode cX6_lightIn 0 = .ok (.iload_n 1, 1) := by decide +kernel
theorem dX6_lightIn_1 : decode cX6_lightIn 1 = .ok (.iconst 3, 1) := by decide +kernel
theorem dX6_lightIn_2 : decode cX6_lightIn 2 = .ok (.imul, 1) := by decide +kernel
theorem dX6_lightIn_3 : decode cX6_lightIn 3 = .ok (.iload_n 3, 1) := by decide +kernel
theorem dX6_lightIn_4 : decode cX6_lightIn 4 = .ok (.iadd, 1) := by decide +kernel
theorem dX6_lightIn_5 : decode cX6_lightIn 5 = .ok (.istore 4, 2) := by decide +kernel
theorem dX6_lightIn_7 : decode cX6_lightIn 7 = .ok (.aload_n 0, 1) := by decide +kernel
theorem dX6_lightIn_8 : decode cX6_lightIn 8 = .ok (.getfield 15, 3) := by decide +kernel
theorem dX6_lightIn_11 : decode cX6_lightIn 11 = .ok (.iload 4, 2) := by decide +kernel
theorem dX6_lightIn_13 : decode cX6_lightIn 13 = .ok (.iaload, 1) := by decide +kernel
theorem dX6_lightIn_14 : decode cX6_lightIn 14 = .ok (.istore 5, 2) := by decide +kernel
theorem dX6_lightIn_16 : decode cX6_lightIn 16 = .ok (.aload_n 0, 1) := by decide +kernel
theorem dX6_lightIn_17 : decode cX6_lightIn 17 = .ok (.iload_n 1, 1) := by decide +kernel
theorem dX6_lightIn_18 : decode cX6_lightIn 18 = .ok (.iload_n 2, 1) := by decide +kernel
theorem dX6_lightIn_19 : decode cX6_lightIn 19 = .ok (.invokevirtual 65, 3) := by decide +kernel
theorem dX6_lightIn_22 : decode cX6_lightIn 22 = .ok (.ifCond .eq 60, 3) := by decide +kernel
theorem dX6_lightIn_25 : decode cX6_lightIn 25 = .ok (.aload_n 0, 1) := by decide +kernel
theorem dX6_lightIn_26 : decode cX6_lightIn 26 = .ok (.getfield 18, 3) := by decide +kernel
theorem dX6_lightIn_29 : decode cX6_lightIn 29 = .ok (.iload_n 1, 1) := by decide +kernel
theorem dX6_lightIn_30 : decode cX6_lightIn 30 = .ok (.iaload, 1) := by decide +kernel
theorem dX6_lightIn_31 : decode cX6_lightIn 31 = .ok (.ifCond .le 51, 3) := by decide +kernel
theorem dX6_lightIn_34 : decode cX6_lightIn 34 = .ok (.iload_n 2, 1) := by decide +kernel
theorem dX6_lightIn_35 : decode cX6_lightIn 35 = .ok (.aload_n 0, 1) := by decide +kernel
theorem dX6_lightIn_36 : decode cX6_lightIn 36 = .ok (.iload_n 1, 1) := by decide +kernel
theorem dX6_lightIn_37 : decode cX6_lightIn 37 = .ok (.invokevirtual 69, 3) := by decide +kernel
theorem dX6_lightIn_40 : decode cX6_lightIn 40 = .ok (.aload_n 0, 1) := by decide +kernel
theorem dX6_lightIn_41 : decode cX6_lightIn 41 = .ok (.getfield 18, 3) := by decide +kernel
theorem dX6_lightIn_44 : decode cX6_lightIn 44 = .ok (.iload_n 1, 1) := by decide +kernel
theorem dX6_lightIn_45 : decode cX6_lightIn 45 = .ok (.iaload, 1) := by decide +kernel
theorem dX6_lightIn_46 : decode cX6_lightIn 46 = .ok (.isub, 1) := by decide +kernel
theorem dX6_lightIn_47 : decode cX6_lightIn 47 = .ok (.isub, 1) := by decide +kernel
theorem dX6_lightIn_48 : decode cX6_lightIn 48 = .ok (.iconst 1, 1) := by decide +kernel
theorem dX6_lightIn_49 : decode cX6_lightIn 49 = .ok (.iadd, 1) := by decide +kernel
theorem dX6_lightIn_50 : decode cX6_lightIn 50 = .ok (.istore 6, 2) := by decide +kernel
theorem dX6_lightIn_52 : decode cX6_lightIn 52 = .ok (.iload 5, 2) := by decide +kernel
theorem dX6_lightIn_54 : decode cX6_lightIn 54 = .ok (.aload_n 0, 1) := by decide +kernel
theorem dX6_lightIn_55 : decode cX6_lightIn 55 = .ok (.getfield 21, 3) := by decide +kernel
theorem dX6_lightIn_58 : decode cX6_lightIn 58 = .ok (.iload 4, 2) := by decide +kernel
theorem dX6_lightIn_60 : decode cX6_lightIn 60 = .ok (.iaload, 1) := by decide +kernel
theorem dX6_lightIn_61 : decode cX6_lightIn 61 = .ok (.aload_n 0, 1) := by decide +kernel
theorem dX6_lightIn_62 : decode cX6_lightIn 62 = .ok (.getfield 15, 3) := by decide +kernel
theorem dX6_lightIn_65 : decode cX6_lightIn 65 = .ok (.iload 4, 2) := by decide +kernel
theorem dX6_lightIn_67 : decode cX6_lightIn 67 = .ok (.iaload, 1) := by decide +kernel
theorem dX6_lightIn_68 : decode cX6_lightIn 68 = .ok (.isub, 1) := by decide +kernel
theorem dX6_lightIn_69 : decode cX6_lightIn 69 = .ok (.iload 6, 2) := by decide +kernel
theorem dX6_lightIn_71 : decode cX6_lightIn 71 = .ok (.imul, 1) := by decide +kernel
theorem dX6_lightIn_72 : decode cX6_lightIn 72 = .ok (.aload_n 0, 1) := by decide +kernel
theorem dX6_lightIn_73 : decode cX6_lightIn 73 = .ok (.getfield 18, 3) := by decide +kernel
theorem dX6_lightIn_76 : decode cX6_lightIn 76 = .ok (.iload_n 1, 1) := by decide +kernel
theorem dX6_lightIn_77 : decode cX6_lightIn 77 = .ok (.iaload, 1) := by decide +kernel
theorem dX6_lightIn_78 : decode cX6_lightIn 78 = .ok (.idiv, 1) := by decide +kernel
theorem dX6_lightIn_79 : decode cX6_lightIn 79 = .ok (.iadd, 1) := by decide +kernel
theorem dX6_lightIn_80 : decode cX6_lightIn 80 = .ok (.istore 5, 2) := by decide +kernel
theorem dX6_lightIn_82 : decode cX6_lightIn 82 = .ok (.iload_n 1, 1) := by decide +kernel
theorem dX6_lightIn_83 : decode cX6_lightIn 83 = .ok (.iconst 4, 1) := by decide +kernel
theorem dX6_lightIn_84 : decode cX6_lightIn 84 = .ok (.imul, 1) := by decide +kernel
theorem dX6_lightIn_85 : decode cX6_lightIn 85 = .ok (.aload_n 0, 1) := by decide +kernel
theorem dX6_lightIn_86 : decode cX6_lightIn 86 = .ok (.getfield 24, 3) := by decide +kernel
theorem dX6_lightIn_89 : decode cX6_lightIn 89 = .ok (.iload_n 1, 1) := by decide +kernel
theorem dX6_lightIn_90 : decode cX6_lightIn 90 = .ok (.iaload, 1) := by decide +kernel
theorem dX6_lightIn_91 : decode cX6_lightIn 91 = .ok (.iadd, 1) := by decide +kernel
theorem dX6_lightIn_92 : decode cX6_lightIn 92 = .ok (.istore 6, 2) := by decide +kernel
theorem dX6_lightIn_94 : decode cX6_lightIn 94 = .ok (.iload_n 1, 1) := by decide +kernel
theorem dX6_lightIn_95 : decode cX6_lightIn 95 = .ok (.iconst 4, 1) := by decide +kernel
theorem dX6_lightIn_96 : decode cX6_lightIn 96 = .ok (.imul, 1) := by decide +kernel
theorem dX6_lightIn_97 : decode cX6_lightIn 97 = .ok (.istore 7, 2) := by decide +kernel
theorem dX6_lightIn_99 : decode cX6_lightIn 99 = .ok (.iload 7, 2) := by decide +kernel
theorem dX6_lightIn_101 : decode cX6_lightIn 101 = .ok (.iload 6, 2) := by decide +kernel
theorem dX6_lightIn_103 : decode cX6_lightIn 103 = .ok (.if_icmp .ge 47, 3) := by decide +kernel
theorem dX6_lightIn_106 : decode cX6_lightIn 106 = .ok (.iload_n 2, 1) := by decide +kernel
theorem dX6_lightIn_107 : decode cX6_lightIn 107 = .ok (.aload_n 0, 1) := by decide +kernel
theorem dX6_lightIn_108 : decode cX6_lightIn 108 = .ok (.getfield 27, 3) := by decide +kernel
theorem dX6_lightIn_111 : decode cX6_lightIn 111 = .ok (.iload 7, 2) := by decide +kernel
theorem dX6_lightIn_113 : decode cX6_lightIn 113 = .ok (.iaload, 1) := by decide +kernel
theorem dX6_lightIn_114 : decode cX6_lightIn 114 = .ok (.if_icmp .lt 30, 3) := by decide +kernel
theorem dX6_lightIn_117 : decode cX6_lightIn 117 = .ok (.iload_n 2, 1) := by decide +kernel
theorem dX6_lightIn_118 : decode cX6_lightIn 118 = .ok (.aload_n 0, 1) := by decide +kernel
theorem dX6_lightIn_119 : decode cX6_lightIn 119 = .ok (.getfield 30, 3) := by decide +kernel
theorem dX6_lightIn_122 : decode cX6_lightIn 122 = .ok (.iload 7, 2) := by decide +kernel
theorem dX6_lightIn_124 : decode cX6_lightIn 124 = .ok (.iaload, 1) := by decide +kernel
theorem dX6_lightIn_125 : decode cX6_lightIn 125 = .ok (.if_icmp .ge 19, 3) := by decide +kernel
theorem dX6_lightIn_128 : decode cX6_lightIn 128 = .ok (.iconst 1, 1) := by decide +kernel
theorem dX6_lightIn_129 : decode cX6_lightIn 129 = .ok (.iload 5, 2) := by decide +kernel
theorem dX6_lightIn_131 : decode cX6_lightIn 131 = .ok (.aload_n 0, 1) := by decide +kernel
theorem dX6_lightIn_132 : decode cX6_lightIn 132 = .ok (.getfield 33, 3) := by decide +kernel
theorem dX6_lightIn_135 : decode cX6_lightIn 135 = .ok (.iload 7, 2) := by decide +kernel
theorem dX6_lightIn_137 : decode cX6_lightIn 137 = .ok (.iaload, 1) := by decide +kernel
theorem dX6_lightIn_138 : decode cX6_lightIn 138 = .ok (.isub, 1) := by decide +kernel
theorem dX6_lightIn_139 : decode cX6_lightIn 139 = .ok (.invokestatic 47, 3) := by decide +kernel
theorem dX6_lightIn_142 : decode cX6_lightIn 142 = .ok (.istore 5, 2) := by decide +kernel
theorem dX6_lightIn_144 : decode cX6_lightIn 144 = .ok (.iinc 7 1, 3) := by decide +kernel
theorem dX6_lightIn_147 : decode cX6_lightIn 147 = .ok (.goto (-48), 3) := by decide +kernel
theorem dX6_lightIn_150 : decode cX6_lightIn 150 = .ok (.iload 5, 2) := by decide +kernel
theorem dX6_lightIn_152 : decode cX6_lightIn 152 = .ok (.ireturn, 1) := by decide +kernel
def LX6_lightIn_99 (t0 : Nat) (c2 : Int) (c6 : Int) (k150 : Int → Mem → Option Res) : Nat → Int → Int → Mem → Option Res
  | 0 => fun _ _ _ => none
  | n + 1 => fun x5 x7 s => (if c6 ≤ x7 then
 k150 x5 s
 else
 rd (s (t0 + 6)) x7 64 (fun v10 =>
 (if c2 < v10 then
 LX6_lightIn_99 t0 c2 c6 k150 n x5 (wr (x7 + 1)) s
 else
 rd (s (t0 + 7)) x7 64 (fun v11 =>
 (if v11 ≤ c2 then
 LX6_lightIn_99 t0 c2 c6 k150 n x5 (wr (x7 + 1)) s
 else
 rd (s (t0 + 8)) x7 64 (fun v12 =>
 lt (mx 1 (wr (x5 - v12))) (fun v13 =>
 LX6_lightIn_99 t0 c2 c6 k150 n v13 (wr (x7 + 1)) s)))))))
def fX6_lightIn (t0 : Nat) (a1 : Int) (a2 : Int) (a3 : Int) (s0 : Mem) : Option Res :=
 lt (wr ((wr (a1 * 3)) + a3)) (fun v1 =>
 rd (s0 (t0 + 2)) v1 48 (fun v2 =>
 bnd (fX6_isInFade t0 a1 a2 s0) (fun r3 s4 =>
 jn (fun (w5 : Int) (s6 : Mem) =>
 rd (s6 (t0 + 5)) a1 16 (fun v7 =>
 lt (wr ((wr (a1 * 4)) + v7)) (fun v8 =>
 lt (wr (a1 * 4)) (fun v9 =>
 LX6_lightIn_99 t0 a2 v8 (fun y15 s14 =>
 some (y15, s14)) FU w5 v9 s6)))) (fun k82 =>
 (if r3 = 0 then
 k82 v2 s4
 else
 rd (s4 (t0 + 3)) a1 16 (fun v16 =>
 (if v16 ≤ 0 then
 k82 v2 s4
 else
 bnd (fX6_framesOf t0 a1 s4) (fun r17 s18 =>
 rd (s18 (t0 + 3)) a1 16 (fun v19 =>
 lt (wr ((wr (a2 - (wr (r17 - v19)))) + 1)) (fun v20 =>
 rd (s18 (t0 + 4)) v1 48 (fun v21 =>
 rd (s18 (t0 + 2)) v1 48 (fun v22 =>
 rd (s18 (t0 + 3)) a1 16 (fun v23 =>
 dv (wr ((wr (v21 - v22)) * v20)) v23 (fun v24 =>
 lt (wr (v2 + v24)) (fun v25 =>
 k82 v25 s18)))))))))))))))
set_option maxRecDepth 100000 in
set_option maxHeartbeats 4000000 in
theorem jLX6_lightIn_99 {K : KT} (hq : KI K (some .int)) (t0 : Nat) (h0 : isSc t0) (c2 : Int) (c6 : Int) (k150 : Int → Mem → Option Res) (hk150 : ∀ (y5 : Int) (s : Mem), J K rmX6_lightIn cX6_lightIn RX6 8 150 [none, none, none, none, none, some (.inl y5), none, none] [] s (k150 y5 s)) : ∀ (n : Nat) (x5 : Int) (x7 : Int) (s : Mem), J K rmX6_lightIn cX6_lightIn RX6 8 99 [some (.inr (.inr t0)), none, some (.inl c2), none, none, some (.inl x5), some (.inl c6), some (.inl x7)] [] s (LX6_lightIn_99 t0 c2 c6 k150 n x5 x7 s) := by
  intro n
  induction n with
  | zero => intros; exact J_none
  | succ n ih =>
    intro x5 x7 s
    show J K _ _ _ _ _ _ _ _ (LX6_lightIn_99 t0 c2 c6 k150 (n + 1) x5 x7 s)
    simp only [LX6_lightIn_99]
    refine j_iload dX6_lightIn_99 rfl ?_
    refine j_iload dX6_lightIn_101 rfl ?_
    refine j_icmp_ge (tgt := 150) dX6_lightIn_103 rfl ?_ ?_
    · exact j_msk [false, false, false, false, false, true, false, false] (hk150 _ _)
    · refine j_iload_n dX6_lightIn_106 rfl rfl ?_
      refine j_aload_n dX6_lightIn_107 rfl rfl ?_
      refine j_getR fl_RX6_27 (sc_o h0) rfl dX6_lightIn_108 ?_
      refine j_iload dX6_lightIn_111 rfl ?_
      refine j_iald (sc_7 h0) dX6_lightIn_113 (fun v10 => ?_)
      refine j_icmp_lt (tgt := 144) dX6_lightIn_114 rfl ?_ ?_
      · refine j_iincE (ls2 := [some (.inr (.inr t0)), none, some (.inl c2), none, none, some (.inl x5), some (.inl c6), some (.inl (wr (x7 + 1)))]) dX6_lightIn_144 rfl (by decide) rfl rfl ?_
        refine j_goto (tgt := 99) dX6_lightIn_147 rfl ?_
        exact j_msk [true, false, true, false, false, true, true, true] (ih _ _ _)
      · refine j_iload_n dX6_lightIn_117 rfl rfl ?_
        refine j_aload_n dX6_lightIn_118 rfl rfl ?_
        refine j_getR fl_RX6_30 (sc_o h0) rfl dX6_lightIn_119 ?_
        refine j_iload dX6_lightIn_122 rfl ?_
        refine j_iald (sc_8 h0) dX6_lightIn_124 (fun v11 => ?_)
        refine j_icmp_ge (tgt := 144) dX6_lightIn_125 rfl ?_ ?_
        · refine j_iincE (ls2 := [some (.inr (.inr t0)), none, some (.inl c2), none, none, some (.inl x5), some (.inl c6), some (.inl (wr (x7 + 1)))]) dX6_lightIn_144 rfl (by decide) rfl rfl ?_
          refine j_goto (tgt := 99) dX6_lightIn_147 rfl ?_
          exact j_msk [true, false, true, false, false, true, true, true] (ih _ _ _)
        · refine j_iconst dX6_lightIn_128 (inr_d rfl) ?_
          refine j_iload dX6_lightIn_129 rfl ?_
          refine j_aload_n dX6_lightIn_131 rfl rfl ?_
          refine j_getR fl_RX6_33 (sc_o h0) rfl dX6_lightIn_132 ?_
          refine j_iload dX6_lightIn_135 rfl ?_
          refine j_iald (sc_9 h0) dX6_lightIn_137 (fun v12 => ?_)
          refine j_isub dX6_lightIn_138 ?_
          refine j_max mw_RX6_47 ⟨by decide, Nat.le_of_ble_eq_true rfl⟩ dX6_lightIn_139 ?_
          refine j_ltv (fun v13 => ?_)
          refine j_istoreE (ls2 := [some (.inr (.inr t0)), none, some (.inl c2), none, none, some (.inl v13), some (.inl c6), some (.inl x7)]) dX6_lightIn_142 (by decide) rfl rfl ?_
          refine j_iincE (ls2 := [some (.inr (.inr t0)), none, some (.inl c2), none, none, some (.inl v13), some (.inl c6), some (.inl (wr (x7 + 1)))]) dX6_lightIn_144 rfl (by decide) rfl rfl ?_
          refine j_goto (tgt := 99) dX6_lightIn_147 rfl ?_
          exact j_msk [true, false, true, false, false, true, true, true] (ih _ _ _)
set_option maxRecDepth 100000 in
set_option maxHeartbeats 4000000 in
theorem mX6_lightIn (l : Launch) (D : va_G) (ad : Nat → Nat) (cA : Nat → ClassId) (t0 : Nat) (h0 : isSc t0) (a1 : Int) (a2 : Int) (a3 : Int) (s0 : Mem) : MCi l D ad cA yX6_lightIn cX6_lightIn 8 (some .int) rmX6_lightIn [.inr (.inr t0), .inl a1, .inl a2, .inl a3] s0 (fX6_lightIn t0 a1 a2 a3 s0) := by
  refine MCi_ofE (own := RX6) (ls := [some (.inr (.inr t0)), some (.inl a1), some (.inl a2), some (.inl a3), none, none, none, none]) 4 (by decide +kernel) rfl rfl (fun _ => Nat.le_of_ble_eq_true rfl) (fun K hq => ?_)
  unfold fX6_lightIn
  refine j_iload_n dX6_lightIn_0 rfl rfl ?_
  refine j_iconst dX6_lightIn_1 (inr_d rfl) ?_
  refine j_imul dX6_lightIn_2 ?_
  refine j_iload_n dX6_lightIn_3 rfl rfl ?_
  refine j_iadd dX6_lightIn_4 ?_
  refine j_ltv (fun v1 => ?_)
  refine j_istoreE (ls2 := [some (.inr (.inr t0)), some (.inl a1), some (.inl a2), some (.inl a3), some (.inl v1), none, none, none]) dX6_lightIn_5 (by decide) rfl rfl ?_
  refine j_aload_n dX6_lightIn_7 rfl rfl ?_
  refine j_getR fl_RX6_15 (sc_o h0) rfl dX6_lightIn_8 ?_
  refine j_iload dX6_lightIn_11 rfl ?_
  refine j_iald (sc_3 h0) dX6_lightIn_13 (fun v2 => ?_)
  refine j_istoreE (ls2 := [some (.inr (.inr t0)), some (.inl a1), some (.inl a2), some (.inl a3), some (.inl v1), some (.inl v2), none, none]) dX6_lightIn_14 (by decide) rfl rfl ?_
  refine j_aload_n dX6_lightIn_16 rfl rfl ?_
  refine j_iload_n dX6_lightIn_17 rfl rfl ?_
  refine j_iload_n dX6_lightIn_18 rfl rfl ?_
  refine j_callVi (mX6_isInFade (kl K) (kD K) (kad K) (kcA K) t0 h0 a1 a2 s0) cw_RX6_65 (sc_o h0) rfl ⟨rfl, rfl, by decide, by decide⟩ rfl rfl (Nat.le_of_ble_eq_true rfl) dX6_lightIn_19 (fun r3 s4 => ?_)
  refine j_jn (fun k82 => ∀ (w5 : Int) (s6 : Mem), J K rmX6_lightIn cX6_lightIn RX6 8 82 [some (.inr (.inr t0)), some (.inl a1), some (.inl a2), none, none, some (.inl w5), none, none] [] s6 (k82 w5 s6)) (fun w5 s6 => ?_) (fun k82 hk82 => ?_)
  · refine j_iload_n dX6_lightIn_82 rfl rfl ?_
    refine j_iconst dX6_lightIn_83 (inr_d rfl) ?_
    refine j_imul dX6_lightIn_84 ?_
    refine j_aload_n dX6_lightIn_85 rfl rfl ?_
    refine j_getR fl_RX6_24 (sc_o h0) rfl dX6_lightIn_86 ?_
    refine j_iload_n dX6_lightIn_89 rfl rfl ?_
    refine j_iald (sc_6 h0) dX6_lightIn_90 (fun v7 => ?_)
    refine j_iadd dX6_lightIn_91 ?_
    refine j_ltv (fun v8 => ?_)
    refine j_istoreE (ls2 := [some (.inr (.inr t0)), some (.inl a1), some (.inl a2), none, none, some (.inl w5), some (.inl v8), none]) dX6_lightIn_92 (by decide) rfl rfl ?_
    refine j_iload_n dX6_lightIn_94 rfl rfl ?_
    refine j_iconst dX6_lightIn_95 (inr_d rfl) ?_
    refine j_imul dX6_lightIn_96 ?_
    refine j_ltv (fun v9 => ?_)
    refine j_istoreE (ls2 := [some (.inr (.inr t0)), some (.inl a1), some (.inl a2), none, none, some (.inl w5), some (.inl v8), some (.inl v9)]) dX6_lightIn_97 (by decide) rfl rfl ?_
    refine j_msk [true, false, true, false, false, true, true, true] (jLX6_lightIn_99 hq t0 h0 _ _ _ (fun y15 s14 => ?_) _ _ _ _)
    refine j_iload dX6_lightIn_150 rfl ?_
    exact j_iret hq dX6_lightIn_152
  refine j_if_eq (tgt := 82) dX6_lightIn_22 rfl ?_ ?_
  · exact j_msk [true, true, true, false, false, true, false, false] (hk82 _ _)
  · refine j_aload_n dX6_lightIn_25 rfl rfl ?_
    refine j_getR fl_RX6_18 (sc_o h0) rfl dX6_lightIn_26 ?_
    refine j_iload_n dX6_lightIn_29 rfl rfl ?_
    refine j_iald (sc_4 h0) dX6_lightIn_30 (fun v16 => ?_)
    refine j_if_le (tgt := 82) dX6_lightIn_31 rfl ?_ ?_
    · exact j_msk [true, true, true, false, false, true, false, false] (hk82 _ _)
    · refine j_iload_n dX6_lightIn_34 rfl rfl ?_
      refine j_aload_n dX6_lightIn_35 rfl rfl ?_
      refine j_iload_n dX6_lightIn_36 rfl rfl ?_
      refine j_callVi (mX6_framesOf (kl K) (kD K) (kad K) (kcA K) t0 h0 a1 s4) cw_RX6_69 (sc_o h0) rfl ⟨rfl, rfl, by decide, by decide⟩ rfl rfl (Nat.le_of_ble_eq_true rfl) dX6_lightIn_37 (fun r17 s18 => ?_)
      refine j_aload_n dX6_lightIn_40 rfl rfl ?_
      refine j_getR fl_RX6_18 (sc_o h0) rfl dX6_lightIn_41 ?_
      refine j_iload_n dX6_lightIn_44 rfl rfl ?_
      refine j_iald (sc_4 h0) dX6_lightIn_45 (fun v19 => ?_)
      refine j_isub dX6_lightIn_46 ?_
      refine j_isub dX6_lightIn_47 ?_
      refine j_iconst dX6_lightIn_48 (inr_d rfl) ?_
      refine j_iadd dX6_lightIn_49 ?_
      refine j_ltv (fun v20 => ?_)
      refine j_istoreE (ls2 := [some (.inr (.inr t0)), some (.inl a1), some (.inl a2), some (.inl a3), some (.inl v1), some (.inl v2), some (.inl v20), none]) dX6_lightIn_50 (by decide) rfl rfl ?_
      refine j_iload dX6_lightIn_52 rfl ?_
      refine j_aload_n dX6_lightIn_54 rfl rfl ?_
      refine j_getR fl_RX6_21 (sc_o h0) rfl dX6_lightIn_55 ?_
      refine j_iload dX6_lightIn_58 rfl ?_
      refine j_iald (sc_5 h0) dX6_lightIn_60 (fun v21 => ?_)
      refine j_aload_n dX6_lightIn_61 rfl rfl ?_
      refine j_getR fl_RX6_15 (sc_o h0) rfl dX6_lightIn_62 ?_
      refine j_iload dX6_lightIn_65 rfl ?_
      refine j_iald (sc_3 h0) dX6_lightIn_67 (fun v22 => ?_)
      refine j_isub dX6_lightIn_68 ?_
      refine j_iload dX6_lightIn_69 rfl ?_
      refine j_imul dX6_lightIn_71 ?_
      refine j_aload_n dX6_lightIn_72 rfl rfl ?_
      refine j_getR fl_RX6_18 (sc_o h0) rfl dX6_lightIn_73 ?_
      refine j_iload_n dX6_lightIn_76 rfl rfl ?_
      refine j_iald (sc_4 h0) dX6_lightIn_77 (fun v23 => ?_)
      refine j_idiv dX6_lightIn_78 (fun v24 => ?_)
      refine j_iadd dX6_lightIn_79 ?_
      refine j_ltv (fun v25 => ?_)
      refine j_istoreE (ls2 := [some (.inr (.inr t0)), some (.inl a1), some (.inl a2), some (.inl a3), some (.inl v1), some (.inl v25), some (.inl v20), none]) dX6_lightIn_80 (by decide) rfl rfl ?_
      exact j_msk [true, true, true, false, false, true, false, false] (hk82 _ _)
abbrev rmX6_jumpBehind : Room := { frames := 3, cells := 0, slots := 0, locals := 70 }
theorem dX6_jumpBehind_0 : decode cX6_jumpBehind 0 = .ok (.iconst 0, 1) := by decide +kernel
theorem dX6_jumpBehind_1 : decode cX6_jumpBehind 1 = .ok (.istore_n 2, 1) := by decide +kernel
theorem dX6_jumpBehind_2 : decode cX6_jumpBehind 2 = .ok (.iconst 0, 1) := by decide +kernel
theorem dX6_jumpBehind_3 : decode cX6_jumpBehind 3 = .ok (.istore_n 3, 1) := by decide +kernel
theorem dX6_jumpBehind_4 : decode cX6_jumpBehind 4 = .ok (.iload_n 3, 1) := by decide +kernel
theorem dX6_jumpBehind_5 : decode cX6_jumpBehind 5 = .ok (.iconst 3, 1) := by decide +kernel
theorem dX6_jumpBehind_6 : decode cX6_jumpBehind 6 = .ok (.if_icmp .ge 44, 3) := by decide +kernel
theorem dX6_jumpBehind_9 : decode cX6_jumpBehind 9 = .ok (.aload_n 0, 1) := by decide +kernel
theorem dX6_jumpBehind_10 : decode cX6_jumpBehind 10 = .ok (.iload_n 1, 1) := by decide +kernel
theorem dX6_jumpBehind_11 : decode cX6_jumpBehind 11 = .ok (.aload_n 0, 1) := by decide +kernel
theorem dX6_jumpBehind_12 : decode cX6_jumpBehind 12 = .ok (.iload_n 1, 1) := by decide +kernel
theorem dX6_jumpBehind_13 : decode cX6_jumpBehind 13 = .ok (.invokevirtual 69, 3) := by decide +kernel
theorem dX6_jumpBehind_16 : decode cX6_jumpBehind 16 = .ok (.iconst 1, 1) := by decide +kernel
theorem dX6_jumpBehind_17 : decode cX6_jumpBehind 17 = .ok (.isub, 1) := by decide +kernel
theorem dX6_jumpBehind_18 : decode cX6_jumpBehind 18 = .ok (.iload_n 3, 1) := by decide +kernel
theorem dX6_jumpBehind_19 : decode cX6_jumpBehind 19 = .ok (.invokevirtual 61, 3) := by decide +kernel
theorem dX6_jumpBehind_22 : decode cX6_jumpBehind 22 = .ok (.istore 4, 2) := by decide +kernel
theorem dX6_jumpBehind_24 : decode cX6_jumpBehind 24 = .ok (.iload_n 2, 1) := by decide +kernel
theorem dX6_jumpBehind_25 : decode cX6_jumpBehind 25 = .ok (.aload_n 0, 1) := by decide +kernel
theorem dX6_jumpBehind_26 : decode cX6_jumpBehind 26 = .ok (.iload_n 1, 1) := by decide +kernel
theorem dX6_jumpBehind_27 : decode cX6_jumpBehind 27 = .ok (.iconst 1, 1) := by decide +kernel
theorem dX6_jumpBehind_28 : decode cX6_jumpBehind 28 = .ok (.iadd, 1) := by decide +kernel
theorem dX6_jumpBehind_29 : decode cX6_jumpBehind 29 = .ok (.iconst 0, 1) := by decide +kernel
theorem dX6_jumpBehind_30 : decode cX6_jumpBehind 30 = .ok (.iload_n 3, 1) := by decide +kernel
theorem dX6_jumpBehind_31 : decode cX6_jumpBehind 31 = .ok (.invokevirtual 61, 3) := by decide +kernel
theorem dX6_jumpBehind_34 : decode cX6_jumpBehind 34 = .ok (.iload 4, 2) := by decide +kernel
theorem dX6_jumpBehind_36 : decode cX6_jumpBehind 36 = .ok (.isub, 1) := by decide +kernel
theorem dX6_jumpBehind_37 : decode cX6_jumpBehind 37 = .ok (.invokestatic 72, 3) := by decide +kernel
theorem dX6_jumpBehind_40 : decode cX6_jumpBehind 40 = .ok (.invokestatic 47, 3) := by decide +kernel
theorem dX6_jumpBehind_43 : decode cX6_jumpBehind 43 = .ok (.istore_n 2, 1) := by decide +kernel
theorem dX6_jumpBehind_44 : decode cX6_jumpBehind 44 = .ok (.iinc 3 1, 3) := by decide +kernel
theorem dX6_jumpBehind_47 : decode cX6_jumpBehind 47 = .ok (.goto (-43), 3) := by decide +kernel
theorem dX6_jumpBehind_50 : decode cX6_jumpBehind 50 = .ok (.iload_n 2, 1) := by decide +kernel
theorem dX6_jumpBehind_51 : decode cX6_jumpBehind 51 = .ok (.ireturn, 1) := by decide +kernel
def LX6_jumpBehind_4 (t0 : Nat) (c1 : Int) (k50 : Int → Mem → Option Res) : Nat → Int → Int → Mem → Option Res
  | 0 => fun _ _ _ => none
  | n + 1 => fun x2 x3 s => (if 3 ≤ x3 then
 k50 x2 s
 else
 bnd (fX6_framesOf t0 c1 s) (fun r1 s2 =>
 bnd (fX6_lightIn t0 c1 (wr (r1 - 1)) x3 s2) (fun r3 s4 =>
 bnd (fX6_lightIn t0 (wr (c1 + 1)) 0 x3 s4) (fun r5 s6 =>
 lt (mx x2 (ab (wr (r5 - r3)))) (fun v7 =>
 LX6_jumpBehind_4 t0 c1 k50 n v7 (wr (x3 + 1)) s6)))))
def fX6_jumpBehind (t0 : Nat) (a1 : Int) (s0 : Mem) : Option Res :=
 LX6_jumpBehind_4 t0 a1 (fun y9 s8 =>
 some (y9, s8)) FU 0 0 s0
set_option maxRecDepth 100000 in
set_option maxHeartbeats 4000000 in
theorem jLX6_jumpBehind_4 {K : KT} (hq : KI K (some .int)) (t0 : Nat) (h0 : isSc t0) (c1 : Int) (k50 : Int → Mem → Option Res) (hk50 : ∀ (y2 : Int) (s : Mem), J K rmX6_jumpBehind cX6_jumpBehind RX6 5 50 [none, none, some (.inl y2), none, none] [] s (k50 y2 s)) : ∀ (n : Nat) (x2 : Int) (x3 : Int) (s : Mem), J K rmX6_jumpBehind cX6_jumpBehind RX6 5 4 [some (.inr (.inr t0)), some (.inl c1), some (.inl x2), some (.inl x3), none] [] s (LX6_jumpBehind_4 t0 c1 k50 n x2 x3 s) := by
  intro n
  induction n with
  | zero => intros; exact J_none
  | succ n ih =>
    intro x2 x3 s
    show J K _ _ _ _ _ _ _ _ (LX6_jumpBehind_4 t0 c1 k50 (n + 1) x2 x3 s)
    simp only [LX6_jumpBehind_4]
    refine j_iload_n dX6_jumpBehind_4 rfl rfl ?_
    refine j_iconst dX6_jumpBehind_5 (inr_d rfl) ?_
    refine j_icmp_ge (tgt := 50) dX6_jumpBehind_6 rfl ?_ ?_
    · exact j_msk [false, false, true, false, false] (hk50 _ _)
    · refine j_aload_n dX6_jumpBehind_9 rfl rfl ?_
      refine j_iload_n dX6_jumpBehind_10 rfl rfl ?_
      refine j_aload_n dX6_jumpBehind_11 rfl rfl ?_
      refine j_iload_n dX6_jumpBehind_12 rfl rfl ?_
      refine j_callVi (mX6_framesOf (kl K) (kD K) (kad K) (kcA K) t0 h0 c1 s) cw_RX6_69 (sc_o h0) rfl ⟨rfl, rfl, by decide, by decide⟩ rfl rfl (Nat.le_of_ble_eq_true rfl) dX6_jumpBehind_13 (fun r1 s2 => ?_)
      refine j_iconst dX6_jumpBehind_16 (inr_d rfl) ?_
      refine j_isub dX6_jumpBehind_17 ?_
      refine j_iload_n dX6_jumpBehind_18 rfl rfl ?_
      refine j_callVi (mX6_lightIn (kl K) (kD K) (kad K) (kcA K) t0 h0 c1 (wr (r1 - 1)) x3 s2) cw_RX6_61 (sc_o h0) rfl ⟨rfl, rfl, by decide, by decide⟩ rfl rfl (Nat.le_of_ble_eq_true rfl) dX6_jumpBehind_19 (fun r3 s4 => ?_)
      refine j_istoreE (ls2 := [some (.inr (.inr t0)), some (.inl c1), some (.inl x2), some (.inl x3), some (.inl r3)]) dX6_jumpBehind_22 (by decide) rfl rfl ?_
      refine j_iload_n dX6_jumpBehind_24 rfl rfl ?_
      refine j_aload_n dX6_jumpBehind_25 rfl rfl ?_
      refine j_iload_n dX6_jumpBehind_26 rfl rfl ?_
      refine j_iconst dX6_jumpBehind_27 (inr_d rfl) ?_
      refine j_iadd dX6_jumpBehind_28 ?_
      refine j_iconst dX6_jumpBehind_29 (inr_d rfl) ?_
      refine j_iload_n dX6_jumpBehind_30 rfl rfl ?_
      refine j_callVi (mX6_lightIn (kl K) (kD K) (kad K) (kcA K) t0 h0 (wr (c1 + 1)) 0 x3 s4) cw_RX6_61 (sc_o h0) rfl ⟨rfl, rfl, by decide, by decide⟩ rfl rfl (Nat.le_of_ble_eq_true rfl) dX6_jumpBehind_31 (fun r5 s6 => ?_)
      refine j_iload dX6_jumpBehind_34 rfl ?_
      refine j_isub dX6_jumpBehind_36 ?_
      refine j_abs mw_RX6_72 ⟨by decide, Nat.le_of_ble_eq_true rfl⟩ dX6_jumpBehind_37 ?_
      refine j_max mw_RX6_47 ⟨by decide, Nat.le_of_ble_eq_true rfl⟩ dX6_jumpBehind_40 ?_
      refine j_ltv (fun v7 => ?_)
      refine j_istore_nE (ls2 := [some (.inr (.inr t0)), some (.inl c1), some (.inl v7), some (.inl x3), some (.inl r3)]) dX6_jumpBehind_43 rfl (by decide) rfl rfl ?_
      refine j_iincE (ls2 := [some (.inr (.inr t0)), some (.inl c1), some (.inl v7), some (.inl (wr (x3 + 1))), some (.inl r3)]) dX6_jumpBehind_44 rfl (by decide) rfl rfl ?_
      refine j_goto (tgt := 4) dX6_jumpBehind_47 rfl ?_
      exact j_msk [true, true, true, true, false] (ih _ _ _)
set_option maxRecDepth 100000 in
set_option maxHeartbeats 4000000 in
theorem mX6_jumpBehind (l : Launch) (D : va_G) (ad : Nat → Nat) (cA : Nat → ClassId) (t0 : Nat) (h0 : isSc t0) (a1 : Int) (s0 : Mem) : MCi l D ad cA yX6_jumpBehind cX6_jumpBehind 5 (some .int) rmX6_jumpBehind [.inr (.inr t0), .inl a1] s0 (fX6_jumpBehind t0 a1 s0) := by
  refine MCi_ofE (own := RX6) (ls := [some (.inr (.inr t0)), some (.inl a1), none, none, none]) 3 (by decide +kernel) rfl rfl (fun _ => Nat.le_of_ble_eq_true rfl) (fun K hq => ?_)
  unfold fX6_jumpBehind
  refine j_iconst dX6_jumpBehind_0 (inr_d rfl) ?_
  refine j_istore_nE (ls2 := [some (.inr (.inr t0)), some (.inl a1), some (.inl 0), none, none]) dX6_jumpBehind_1 rfl (by decide) rfl rfl ?_
  refine j_iconst dX6_jumpBehind_2 (inr_d rfl) ?_
  refine j_istore_nE (ls2 := [some (.inr (.inr t0)), some (.inl a1), some (.inl 0), some (.inl 0), none]) dX6_jumpBehind_3 rfl (by decide) rfl rfl ?_
  refine j_msk [true, true, true, true, false] (jLX6_jumpBehind_4 hq t0 h0 _ _ (fun y9 s8 => ?_) _ _ _ _)
  refine j_iload_n dX6_jumpBehind_50 rfl rfl ?_
  exact j_iret hq dX6_jumpBehind_51
abbrev rmX6_isAtEffect : Room := { frames := 0, cells := 0, slots := 0, locals := 0 }
theorem dX6_isAtEffect_0 : decode cX6_isAtEffect 0 = .ok (.iload_n 1, 1) := by decide +kernel
theorem dX6_isAtEffect_1 : decode cX6_isAtEffect 1 = .ok (.iconst 4, 1) := by decide +kernel
theorem dX6_isAtEffect_2 : decode cX6_isAtEffect 2 = .ok (.imul, 1) := by decide +kernel
theorem dX6_isAtEffect_3 : decode cX6_isAtEffect 3 = .ok (.aload_n 0, 1) := by decide +kernel
theorem dX6_isAtEffect_4 : decode cX6_isAtEffect 4 = .ok (.getfield 24, 3) := by decide +kernel
theorem dX6_isAtEffect_7 : decode cX6_isAtEffect 7 = .ok (.iload_n 1, 1) := by decide +kernel
theorem dX6_isAtEffect_8 : decode cX6_isAtEffect 8 = .ok (.iaload, 1) := by decide +kernel
theorem dX6_isAtEffect_9 : decode cX6_isAtEffect 9 = .ok (.iadd, 1) := by decide +kernel
theorem dX6_isAtEffect_10 : decode cX6_isAtEffect 10 = .ok (.istore_n 3, 1) := by decide +kernel
theorem dX6_isAtEffect_11 : decode cX6_isAtEffect 11 = .ok (.iload_n 1, 1) := by decide +kernel
theorem dX6_isAtEffect_12 : decode cX6_isAtEffect 12 = .ok (.iconst 4, 1) := by decide +kernel
theorem dX6_isAtEffect_13 : decode cX6_isAtEffect 13 = .ok (.imul, 1) := by decide +kernel
theorem dX6_isAtEffect_14 : decode cX6_isAtEffect 14 = .ok (.istore 4, 2) := by decide +kernel
theorem dX6_isAtEffect_16 : decode cX6_isAtEffect 16 = .ok (.iload 4, 2) := by decide +kernel
theorem dX6_isAtEffect_18 : decode cX6_isAtEffect 18 = .ok (.iload_n 3, 1) := by decide +kernel
theorem dX6_isAtEffect_19 : decode cX6_isAtEffect 19 = .ok (.if_icmp .ge 33, 3) := by decide +kernel
theorem dX6_isAtEffect_22 : decode cX6_isAtEffect 22 = .ok (.iload_n 2, 1) := by decide +kernel
theorem dX6_isAtEffect_23 : decode cX6_isAtEffect 23 = .ok (.aload_n 0, 1) := by decide +kernel
theorem dX6_isAtEffect_24 : decode cX6_isAtEffect 24 = .ok (.getfield 27, 3) := by decide +kernel
theorem dX6_isAtEffect_27 : decode cX6_isAtEffect 27 = .ok (.iload 4, 2) := by decide +kernel
theorem dX6_isAtEffect_29 : decode cX6_isAtEffect 29 = .ok (.iaload, 1) := by decide +kernel
theorem dX6_isAtEffect_30 : decode cX6_isAtEffect 30 = .ok (.if_icmp .eq 14, 3) := by decide +kernel
theorem dX6_isAtEffect_33 : decode cX6_isAtEffect 33 = .ok (.iload_n 2, 1) := by decide +kernel
theorem dX6_isAtEffect_34 : decode cX6_isAtEffect 34 = .ok (.aload_n 0, 1) := by decide +kernel
theorem dX6_isAtEffect_35 : decode cX6_isAtEffect 35 = .ok (.getfield 30, 3) := by decide +kernel
theorem dX6_isAtEffect_38 : decode cX6_isAtEffect 38 = .ok (.iload 4, 2) := by decide +kernel
theorem dX6_isAtEffect_40 : decode cX6_isAtEffect 40 = .ok (.iaload, 1) := by decide +kernel
theorem dX6_isAtEffect_41 : decode cX6_isAtEffect 41 = .ok (.if_icmp .ne 5, 3) := by decide +kernel
theorem dX6_isAtEffect_44 : decode cX6_isAtEffect 44 = .ok (.iconst 1, 1) := by decide +kernel
theorem dX6_isAtEffect_45 : decode cX6_isAtEffect 45 = .ok (.ireturn, 1) := by decide +kernel
theorem dX6_isAtEffect_46 : decode cX6_isAtEffect 46 = .ok (.iinc 4 1, 3) := by decide +kernel
theorem dX6_isAtEffect_49 : decode cX6_isAtEffect 49 = .ok (.goto (-33), 3) := by decide +kernel
theorem dX6_isAtEffect_52 : decode cX6_isAtEffect 52 = .ok (.iconst 0, 1) := by decide +kernel
theorem dX6_isAtEffect_53 : decode cX6_isAtEffect 53 = .ok (.ireturn, 1) := by decide +kernel
def LX6_isAtEffect_16 (t0 : Nat) (c2 : Int) (c3 : Int) (k52 : Mem → Option Res) : Nat → Int → Mem → Option Res
  | 0 => fun _ _ => none
  | n + 1 => fun x4 s => (if c3 ≤ x4 then
 k52 s
 else
 rd (s (t0 + 6)) x4 64 (fun v4 =>
 (if c2 = v4 then
 zr 1 s
 else
 rd (s (t0 + 7)) x4 64 (fun v5 =>
 (if c2 ≠ v5 then
 LX6_isAtEffect_16 t0 c2 c3 k52 n (wr (x4 + 1)) s
 else
 zr 1 s)))))
def fX6_isAtEffect (t0 : Nat) (a1 : Int) (a2 : Int) (s0 : Mem) : Option Res :=
 rd (s0 (t0 + 5)) a1 16 (fun v1 =>
 lt (wr ((wr (a1 * 4)) + v1)) (fun v2 =>
 lt (wr (a1 * 4)) (fun v3 =>
 LX6_isAtEffect_16 t0 a2 v2 (fun s6 =>
 zr 0 s6) FU v3 s0)))
set_option maxRecDepth 100000 in
set_option maxHeartbeats 4000000 in
theorem jLX6_isAtEffect_16 {K : KT} (hq : KI K (some .boolean)) (t0 : Nat) (h0 : isSc t0) (c2 : Int) (c3 : Int) (k52 : Mem → Option Res) (hk52 : ∀ (s : Mem), J K rmX6_isAtEffect cX6_isAtEffect RX6 5 52 [none, none, none, none, none] [] s (k52 s)) : ∀ (n : Nat) (x4 : Int) (s : Mem), J K rmX6_isAtEffect cX6_isAtEffect RX6 5 16 [some (.inr (.inr t0)), none, some (.inl c2), some (.inl c3), some (.inl x4)] [] s (LX6_isAtEffect_16 t0 c2 c3 k52 n x4 s) := by
  intro n
  induction n with
  | zero => intros; exact J_none
  | succ n ih =>
    intro x4 s
    show J K _ _ _ _ _ _ _ _ (LX6_isAtEffect_16 t0 c2 c3 k52 (n + 1) x4 s)
    simp only [LX6_isAtEffect_16]
    refine j_iload dX6_isAtEffect_16 rfl ?_
    refine j_iload_n dX6_isAtEffect_18 rfl rfl ?_
    refine j_icmp_ge (tgt := 52) dX6_isAtEffect_19 rfl ?_ ?_
    · exact j_msk [false, false, false, false, false] (hk52 _)
    · refine j_iload_n dX6_isAtEffect_22 rfl rfl ?_
      refine j_aload_n dX6_isAtEffect_23 rfl rfl ?_
      refine j_getR fl_RX6_27 (sc_o h0) rfl dX6_isAtEffect_24 ?_
      refine j_iload dX6_isAtEffect_27 rfl ?_
      refine j_iald (sc_7 h0) dX6_isAtEffect_29 (fun v4 => ?_)
      refine j_icmp_eq (tgt := 44) dX6_isAtEffect_30 rfl ?_ ?_
      · refine j_iconst dX6_isAtEffect_44 (inr_d rfl) ?_
        exact j_zret hq dX6_isAtEffect_45
      · refine j_iload_n dX6_isAtEffect_33 rfl rfl ?_
        refine j_aload_n dX6_isAtEffect_34 rfl rfl ?_
        refine j_getR fl_RX6_30 (sc_o h0) rfl dX6_isAtEffect_35 ?_
        refine j_iload dX6_isAtEffect_38 rfl ?_
        refine j_iald (sc_8 h0) dX6_isAtEffect_40 (fun v5 => ?_)
        refine j_icmp_ne (tgt := 46) dX6_isAtEffect_41 rfl ?_ ?_
        · refine j_iincE (ls2 := [some (.inr (.inr t0)), none, some (.inl c2), some (.inl c3), some (.inl (wr (x4 + 1)))]) dX6_isAtEffect_46 rfl (by decide) rfl rfl ?_
          refine j_goto (tgt := 16) dX6_isAtEffect_49 rfl ?_
          exact j_msk [true, false, true, true, true] (ih _ _)
        · refine j_iconst dX6_isAtEffect_44 (inr_d rfl) ?_
          exact j_zret hq dX6_isAtEffect_45
set_option maxRecDepth 100000 in
set_option maxHeartbeats 4000000 in
theorem mX6_isAtEffect (l : Launch) (D : va_G) (ad : Nat → Nat) (cA : Nat → ClassId) (t0 : Nat) (h0 : isSc t0) (a1 : Int) (a2 : Int) (s0 : Mem) : MCi l D ad cA yX6_isAtEffect cX6_isAtEffect 5 (some .boolean) rmX6_isAtEffect [.inr (.inr t0), .inl a1, .inl a2] s0 (fX6_isAtEffect t0 a1 a2 s0) := by
  refine MCi_ofE (own := RX6) (ls := [some (.inr (.inr t0)), some (.inl a1), some (.inl a2), none, none]) 2 (by decide +kernel) rfl rfl (fun _ => Nat.le_of_ble_eq_true rfl) (fun K hq => ?_)
  unfold fX6_isAtEffect
  refine j_iload_n dX6_isAtEffect_0 rfl rfl ?_
  refine j_iconst dX6_isAtEffect_1 (inr_d rfl) ?_
  refine j_imul dX6_isAtEffect_2 ?_
  refine j_aload_n dX6_isAtEffect_3 rfl rfl ?_
  refine j_getR fl_RX6_24 (sc_o h0) rfl dX6_isAtEffect_4 ?_
  refine j_iload_n dX6_isAtEffect_7 rfl rfl ?_
  refine j_iald (sc_6 h0) dX6_isAtEffect_8 (fun v1 => ?_)
  refine j_iadd dX6_isAtEffect_9 ?_
  refine j_ltv (fun v2 => ?_)
  refine j_istore_nE (ls2 := [some (.inr (.inr t0)), some (.inl a1), some (.inl a2), some (.inl v2), none]) dX6_isAtEffect_10 rfl (by decide) rfl rfl ?_
  refine j_iload_n dX6_isAtEffect_11 rfl rfl ?_
  refine j_iconst dX6_isAtEffect_12 (inr_d rfl) ?_
  refine j_imul dX6_isAtEffect_13 ?_
  refine j_ltv (fun v3 => ?_)
  refine j_istoreE (ls2 := [some (.inr (.inr t0)), some (.inl a1), some (.inl a2), some (.inl v2), some (.inl v3)]) dX6_isAtEffect_14 (by decide) rfl rfl ?_
  refine j_msk [true, false, true, true, true] (jLX6_isAtEffect_16 hq t0 h0 _ _ _ (fun s6 => ?_) _ _ _)
  refine j_iconst dX6_isAtEffect_52 (inr_d rfl) ?_
  exact j_zret hq dX6_isAtEffect_53
abbrev rmX0_isFree : Room := { frames := 2, cells := 0, slots := 0, locals := 43 }
theorem dX0_isFree_0 : decode cX0_isFree 0 = .ok (.aload_n 0, 1) := by decide +kernel
theorem dX0_isFree_1 : decode cX0_isFree 1 = .ok (.iload_n 1, 1) := by decide +kernel
theorem dX0_isFree_2 : decode cX0_isFree 2 = .ok (.iconst 0, 1) := by decide +kernel
theorem dX0_isFree_3 : decode cX0_isFree 3 = .ok (.invokevirtual 53, 3) := by decide +kernel
theorem dX0_isFree_6 : decode cX0_isFree 6 = .ok (.ifCond .ne 29, 3) := by decide +kernel
theorem dX0_isFree_9 : decode cX0_isFree 9 = .ok (.aload_n 0, 1) := by decide +kernel
theorem dX0_isFree_10 : decode cX0_isFree 10 = .ok (.iload_n 1, 1) := by decide +kernel
theorem dX0_isFree_11 : decode cX0_isFree 11 = .ok (.iconst 0, 1) := by decide +kernel
theorem dX0_isFree_12 : decode cX0_isFree 12 = .ok (.invokevirtual 57, 3) := by decide +kernel
theorem dX0_isFree_15 : decode cX0_isFree 15 = .ok (.ifCond .ne 20, 3) := by decide +kernel
theorem dX0_isFree_18 : decode cX0_isFree 18 = .ok (.aload_n 0, 1) := by decide +kernel
theorem dX0_isFree_19 : decode cX0_isFree 19 = .ok (.iload_n 1, 1) := by decide +kernel
theorem dX0_isFree_20 : decode cX0_isFree 20 = .ok (.iconst 1, 1) := by decide +kernel
theorem dX0_isFree_21 : decode cX0_isFree 21 = .ok (.isub, 1) := by decide +kernel
theorem dX0_isFree_22 : decode cX0_isFree 22 = .ok (.aload_n 0, 1) := by decide +kernel
theorem dX0_isFree_23 : decode cX0_isFree 23 = .ok (.iload_n 1, 1) := by decide +kernel
theorem dX0_isFree_24 : decode cX0_isFree 24 = .ok (.iconst 1, 1) := by decide +kernel
theorem dX0_isFree_25 : decode cX0_isFree 25 = .ok (.isub, 1) := by decide +kernel
theorem dX0_isFree_26 : decode cX0_isFree 26 = .ok (.invokevirtual 60, 3) := by decide +kernel
theorem dX0_isFree_29 : decode cX0_isFree 29 = .ok (.invokevirtual 57, 3) := by decide +kernel
theorem dX0_isFree_32 : decode cX0_isFree 32 = .ok (.ifCond .eq 7, 3) := by decide +kernel
theorem dX0_isFree_35 : decode cX0_isFree 35 = .ok (.iconst 1, 1) := by decide +kernel
theorem dX0_isFree_36 : decode cX0_isFree 36 = .ok (.goto 4, 3) := by decide +kernel
theorem dX0_isFree_39 : decode cX0_isFree 39 = .ok (.iconst 0, 1) := by decide +kernel
theorem dX0_isFree_40 : decode cX0_isFree 40 = .ok (.ireturn, 1) := by decide +kernel
def fX0_isFree (t0 : Nat) (a1 : Int) (s0 : Mem) : Option Res :=
 bnd (fX6_isInFade t0 a1 0 s0) (fun r1 s2 =>
 (if r1 ≠ 0 then
 zr 1 s2
 else
 bnd (fX6_isAtEffect t0 a1 0 s2) (fun r3 s4 =>
 (if r3 ≠ 0 then
 zr 1 s4
 else
 bnd (fX6_framesOf t0 (wr (a1 - 1)) s4) (fun r5 s6 =>
 bnd (fX6_isAtEffect t0 (wr (a1 - 1)) r5 s6) (fun r7 s8 =>
 (if r7 = 0 then
 zr 0 s8
 else
 zr 1 s8)))))))
set_option maxRecDepth 100000 in
set_option maxHeartbeats 4000000 in
theorem mX0_isFree (l : Launch) (D : va_G) (ad : Nat → Nat) (cA : Nat → ClassId) (t0 : Nat) (h0 : isSc t0) (a1 : Int) (s0 : Mem) : MCi l D ad cA yX0_isFree cX0_isFree 2 (some .boolean) rmX0_isFree [.inr (.inr t0), .inl a1] s0 (fX0_isFree t0 a1 s0) := by
  refine MCi_ofE (own := RX0) (ls := [some (.inr (.inr t0)), some (.inl a1)]) 0 (by decide +kernel) rfl rfl (fun _ => Nat.le_of_ble_eq_true rfl) (fun K hq => ?_)
  unfold fX0_isFree
  refine j_aload_n dX0_isFree_0 rfl rfl ?_
  refine j_iload_n dX0_isFree_1 rfl rfl ?_
  refine j_iconst dX0_isFree_2 (inr_d rfl) ?_
  refine j_callVi (mX6_isInFade (kl K) (kD K) (kad K) (kcA K) t0 h0 a1 0 s0) cw_RX0_53 (sc_o h0) rfl ⟨rfl, rfl, by decide, by decide⟩ rfl rfl (Nat.le_of_ble_eq_true rfl) dX0_isFree_3 (fun r1 s2 => ?_)
  refine j_if_ne (tgt := 35) dX0_isFree_6 rfl ?_ ?_
  · refine j_iconst dX0_isFree_35 (inr_d rfl) ?_
    refine j_goto (tgt := 40) dX0_isFree_36 rfl ?_
    exact j_zret hq dX0_isFree_40
  · refine j_aload_n dX0_isFree_9 rfl rfl ?_
    refine j_iload_n dX0_isFree_10 rfl rfl ?_
    refine j_iconst dX0_isFree_11 (inr_d rfl) ?_
    refine j_callVi (mX6_isAtEffect (kl K) (kD K) (kad K) (kcA K) t0 h0 a1 0 s2) cw_RX0_57 (sc_o h0) rfl ⟨rfl, rfl, by decide, by decide⟩ rfl rfl (Nat.le_of_ble_eq_true rfl) dX0_isFree_12 (fun r3 s4 => ?_)
    refine j_if_ne (tgt := 35) dX0_isFree_15 rfl ?_ ?_
    · refine j_iconst dX0_isFree_35 (inr_d rfl) ?_
      refine j_goto (tgt := 40) dX0_isFree_36 rfl ?_
      exact j_zret hq dX0_isFree_40
    · refine j_aload_n dX0_isFree_18 rfl rfl ?_
      refine j_iload_n dX0_isFree_19 rfl rfl ?_
      refine j_iconst dX0_isFree_20 (inr_d rfl) ?_
      refine j_isub dX0_isFree_21 ?_
      refine j_aload_n dX0_isFree_22 rfl rfl ?_
      refine j_iload_n dX0_isFree_23 rfl rfl ?_
      refine j_iconst dX0_isFree_24 (inr_d rfl) ?_
      refine j_isub dX0_isFree_25 ?_
      refine j_callVi (mX6_framesOf (kl K) (kD K) (kad K) (kcA K) t0 h0 (wr (a1 - 1)) s4) cw_RX0_60 (sc_o h0) rfl ⟨rfl, rfl, by decide, by decide⟩ rfl rfl (Nat.le_of_ble_eq_true rfl) dX0_isFree_26 (fun r5 s6 => ?_)
      refine j_callVi (mX6_isAtEffect (kl K) (kD K) (kad K) (kcA K) t0 h0 (wr (a1 - 1)) r5 s6) cw_RX0_57 (sc_o h0) rfl ⟨rfl, rfl, by decide, by decide⟩ rfl rfl (Nat.le_of_ble_eq_true rfl) dX0_isFree_29 (fun r7 s8 => ?_)
      refine j_if_eq (tgt := 39) dX0_isFree_32 rfl ?_ ?_
      · refine j_iconst dX0_isFree_39 (inr_d rfl) ?_
        exact j_zret hq dX0_isFree_40
      · refine j_iconst dX0_isFree_35 (inr_d rfl) ?_
        refine j_goto (tgt := 40) dX0_isFree_36 rfl ?_
        exact j_zret hq dX0_isFree_40
abbrev rmX0_note : Room := { frames := 0, cells := 0, slots := 0, locals := 0 }
theorem dX0_note_0 : decode cX0_note 0 = .ok (.aload_n 0, 1) := by decide +kernel
theorem dX0_note_1 : decode cX0_note 1 = .ok (.dup, 1) := by decide +kernel
theorem dX0_note_2 : decode cX0_note 2 = .ok (.getfield 19, 3) := by decide +kernel
theorem dX0_note_5 : decode cX0_note 5 = .ok (.iconst 1, 1) := by decide +kernel
theorem dX0_note_6 : decode cX0_note 6 = .ok (.iadd, 1) := by decide +kernel
theorem dX0_note_7 : decode cX0_note 7 = .ok (.putfield 19, 3) := by decide +kernel
theorem dX0_note_10 : decode cX0_note 10 = .ok (.aload_n 0, 1) := by decide +kernel
theorem dX0_note_11 : decode cX0_note 11 = .ok (.iload_n 1, 1) := by decide +kernel
theorem dX0_note_12 : decode cX0_note 12 = .ok (.putfield 42, 3) := by decide +kernel
theorem dX0_note_15 : decode cX0_note 15 = .ok (.return_, 1) := by decide +kernel
def fX0_note (a1 : Int) (s0 : Mem) : Option Res :=
 lt (up s0 77 2 (wr ((s0 77 2) + 1))) (fun s1 =>
 lt (up s1 77 3 a1) (fun s2 =>
 some (0, s2)))
set_option maxRecDepth 100000 in
set_option maxHeartbeats 4000000 in
theorem mX0_note (l : Launch) (D : va_G) (ad : Nat → Nat) (cA : Nat → ClassId) (a1 : Int) (s0 : Mem) : MCv l D ad cA yX0_note cX0_note 2 none rmX0_note [.inr (.inr 77), .inl a1] s0 (fX0_note a1 s0) := by
  refine MCv_ofE (own := RX0) (ls := [some (.inr (.inr 77)), some (.inl a1)]) 0 (by decide +kernel) rfl rfl (fun _ => Nat.le_of_ble_eq_true rfl) (fun K hq => ?_)
  unfold fX0_note
  refine j_aload_n dX0_note_0 rfl rfl ?_
  refine j_dup rfl dX0_note_1 ?_
  refine j_getI fl_RX0_19 sh_77 rfl dX0_note_2 ?_
  refine j_iconst dX0_note_5 (inr_d rfl) ?_
  refine j_iadd dX0_note_6 ?_
  refine j_putI fp_RX0_19 sh_77 rfl dX0_note_7 (fun s1 => ?_)
  refine j_aload_n dX0_note_10 rfl rfl ?_
  refine j_iload_n dX0_note_11 rfl rfl ?_
  refine j_putI fp_RX0_42 sh_77 rfl dX0_note_12 (fun s2 => ?_)
  exact j_vret hq dX0_note_15
abbrev rmX0_changeAtCut : Room := { frames := 3, cells := 0, slots := 0, locals := 64 }
theorem dX0_changeAtCut_0 : decode cX0_changeAtCut 0 = .ok (.aload_n 1, 1) := by decide +kernel
theorem dX0_changeAtCut_1 : decode cX0_changeAtCut 1 = .ok (.getfield 39, 3) := by decide +kernel
theorem dX0_changeAtCut_4 : decode cX0_changeAtCut 4 = .ok (.iload_n 2, 1) := by decide +kernel
theorem dX0_changeAtCut_5 : decode cX0_changeAtCut 5 = .ok (.iaload, 1) := by decide +kernel
theorem dX0_changeAtCut_6 : decode cX0_changeAtCut 6 = .ok (.istore 4, 2) := by decide +kernel
theorem dX0_changeAtCut_8 : decode cX0_changeAtCut 8 = .ok (.aload_n 0, 1) := by decide +kernel
theorem dX0_changeAtCut_9 : decode cX0_changeAtCut 9 = .ok (.getfield 19, 3) := by decide +kernel
theorem dX0_changeAtCut_12 : decode cX0_changeAtCut 12 = .ok (.ifCond .eq 22, 3) := by decide +kernel
theorem dX0_changeAtCut_15 : decode cX0_changeAtCut 15 = .ok (.iload 4, 2) := by decide +kernel
theorem dX0_changeAtCut_17 : decode cX0_changeAtCut 17 = .ok (.aload_n 0, 1) := by decide +kernel
theorem dX0_changeAtCut_18 : decode cX0_changeAtCut 18 = .ok (.getfield 42, 3) := by decide +kernel
theorem dX0_changeAtCut_21 : decode cX0_changeAtCut 21 = .ok (.isub, 1) := by decide +kernel
theorem dX0_changeAtCut_22 : decode cX0_changeAtCut 22 = .ok (.iload_n 3, 1) := by decide +kernel
theorem dX0_changeAtCut_23 : decode cX0_changeAtCut 23 = .ok (.if_icmp .ge 11, 3) := by decide +kernel
theorem dX0_changeAtCut_26 : decode cX0_changeAtCut 26 = .ok (.aload_n 1, 1) := by decide +kernel
theorem dX0_changeAtCut_27 : decode cX0_changeAtCut 27 = .ok (.iload_n 2, 1) := by decide +kernel
theorem dX0_changeAtCut_28 : decode cX0_changeAtCut 28 = .ok (.invokestatic 45, 3) := by decide +kernel
theorem dX0_changeAtCut_31 : decode cX0_changeAtCut 31 = .ok (.ifCond .eq 7, 3) := by decide +kernel
theorem dX0_changeAtCut_34 : decode cX0_changeAtCut 34 = .ok (.iconst 1, 1) := by decide +kernel
theorem dX0_changeAtCut_35 : decode cX0_changeAtCut 35 = .ok (.goto 4, 3) := by decide +kernel
theorem dX0_changeAtCut_38 : decode cX0_changeAtCut 38 = .ok (.iconst 0, 1) := by decide +kernel
theorem dX0_changeAtCut_39 : decode cX0_changeAtCut 39 = .ok (.istore 5, 2) := by decide +kernel
theorem dX0_changeAtCut_41 : decode cX0_changeAtCut 41 = .ok (.iload 5, 2) := by decide +kernel
theorem dX0_changeAtCut_43 : decode cX0_changeAtCut 43 = .ok (.ifCond .ne 36, 3) := by decide +kernel
theorem dX0_changeAtCut_46 : decode cX0_changeAtCut 46 = .ok (.aload_n 0, 1) := by decide +kernel
theorem dX0_changeAtCut_47 : decode cX0_changeAtCut 47 = .ok (.getfield 15, 3) := by decide +kernel
theorem dX0_changeAtCut_50 : decode cX0_changeAtCut 50 = .ok (.aload_n 0, 1) := by decide +kernel
theorem dX0_changeAtCut_51 : decode cX0_changeAtCut 51 = .ok (.getfield 9, 3) := by decide +kernel
theorem dX0_changeAtCut_54 : decode cX0_changeAtCut 54 = .ok (.arraylength, 1) := by decide +kernel
theorem dX0_changeAtCut_55 : decode cX0_changeAtCut 55 = .ok (.if_icmp .ge 24, 3) := by decide +kernel
theorem dX0_changeAtCut_58 : decode cX0_changeAtCut 58 = .ok (.aload_n 0, 1) := by decide +kernel
theorem dX0_changeAtCut_59 : decode cX0_changeAtCut 59 = .ok (.getfield 9, 3) := by decide +kernel
theorem dX0_changeAtCut_62 : decode cX0_changeAtCut 62 = .ok (.aload_n 0, 1) := by decide +kernel
theorem dX0_changeAtCut_63 : decode cX0_changeAtCut 63 = .ok (.getfield 15, 3) := by decide +kernel
theorem dX0_changeAtCut_66 : decode cX0_changeAtCut 66 = .ok (.iload 4, 2) := by decide +kernel
theorem dX0_changeAtCut_68 : decode cX0_changeAtCut 68 = .ok (.iastore, 1) := by decide +kernel
theorem dX0_changeAtCut_69 : decode cX0_changeAtCut 69 = .ok (.aload_n 0, 1) := by decide +kernel
theorem dX0_changeAtCut_70 : decode cX0_changeAtCut 70 = .ok (.dup, 1) := by decide +kernel
theorem dX0_changeAtCut_71 : decode cX0_changeAtCut 71 = .ok (.getfield 15, 3) := by decide +kernel
theorem dX0_changeAtCut_74 : decode cX0_changeAtCut 74 = .ok (.iconst 1, 1) := by decide +kernel
theorem dX0_changeAtCut_75 : decode cX0_changeAtCut 75 = .ok (.iadd, 1) := by decide +kernel
theorem dX0_changeAtCut_76 : decode cX0_changeAtCut 76 = .ok (.putfield 15, 3) := by decide +kernel
theorem dX0_changeAtCut_79 : decode cX0_changeAtCut 79 = .ok (.aload_n 0, 1) := by decide +kernel
theorem dX0_changeAtCut_80 : decode cX0_changeAtCut 80 = .ok (.iload 4, 2) := by decide +kernel
theorem dX0_changeAtCut_82 : decode cX0_changeAtCut 82 = .ok (.invokevirtual 49, 3) := by decide +kernel
theorem dX0_changeAtCut_85 : decode cX0_changeAtCut 85 = .ok (.return_, 1) := by decide +kernel
def fX0_changeAtCut (t1 : Nat) (a2 : Int) (a3 : Int) (s0 : Mem) : Option Res :=
 rd (s0 (t1 + 1)) a2 17 (fun v1 =>
 jn (fun (u2 : Int) (s3 : Mem) =>
 jn (fun (s4 : Mem) =>
 bnd (fX0_note v1 s4) (fun _ s6 =>
 some (0, s6))) (fun k79 =>
 (if u2 ≠ 0 then
 k79 s3
 else
 (if ((16 : Nat) : Int) ≤ s3 77 1 then
 k79 s3
 else
 ST s3 78 (s3 77 1) 16 v1 (fun s7 =>
 lt (up s7 77 1 (wr ((s7 77 1) + 1))) (fun s8 =>
 k79 s8)))))) (fun k39 =>
 (if s0 77 2 = 0 then
 k39 1 s0
 else
 (if a3 ≤ wr (v1 - (s0 77 3)) then
 k39 1 s0
 else
 bnd (fX0_isFree t1 a2 s0) (fun r9 s10 =>
 (if r9 = 0 then
 k39 0 s10
 else
 k39 1 s10))))))
set_option maxRecDepth 100000 in
set_option maxHeartbeats 4000000 in
theorem mX0_changeAtCut (l : Launch) (D : va_G) (ad : Nat → Nat) (cA : Nat → ClassId) (t1 : Nat) (h1 : isSc t1) (a2 : Int) (a3 : Int) (s0 : Mem) : MCv l D ad cA yX0_changeAtCut cX0_changeAtCut 6 none rmX0_changeAtCut [.inr (.inr 77), .inr (.inr t1), .inl a2, .inl a3] s0 (fX0_changeAtCut t1 a2 a3 s0) := by
  refine MCv_ofE (own := RX0) (ls := [some (.inr (.inr 77)), some (.inr (.inr t1)), some (.inl a2), some (.inl a3), none, none]) 2 (by decide +kernel) rfl rfl (fun _ => Nat.le_of_ble_eq_true rfl) (fun K hq => ?_)
  unfold fX0_changeAtCut
  refine j_aload_n dX0_changeAtCut_0 rfl rfl ?_
  refine j_getR fl_RX0_39 (sc_o h1) rfl dX0_changeAtCut_1 ?_
  refine j_iload_n dX0_changeAtCut_4 rfl rfl ?_
  refine j_iald (sc_2 h1) dX0_changeAtCut_5 (fun v1 => ?_)
  refine j_istoreE (ls2 := [some (.inr (.inr 77)), some (.inr (.inr t1)), some (.inl a2), some (.inl a3), some (.inl v1), none]) dX0_changeAtCut_6 (by decide) rfl rfl ?_
  refine j_aload_n dX0_changeAtCut_8 rfl rfl ?_
  refine j_getI fl_RX0_19 sh_77 rfl dX0_changeAtCut_9 ?_
  refine j_jn (fun k39 => ∀ (u2 : Int) (s3 : Mem), J K rmX0_changeAtCut cX0_changeAtCut RX0 6 39 [some (.inr (.inr 77)), none, none, none, some (.inl v1), none] [.inl u2] s3 (k39 u2 s3)) (fun u2 s3 => ?_) (fun k39 hk39 => ?_)
  · refine j_istoreE (ls2 := [some (.inr (.inr 77)), none, none, none, some (.inl v1), some (.inl u2)]) dX0_changeAtCut_39 (by decide) rfl rfl ?_
    refine j_iload dX0_changeAtCut_41 rfl ?_
    refine j_jn (fun k79 => ∀ (s4 : Mem), J K rmX0_changeAtCut cX0_changeAtCut RX0 6 79 [some (.inr (.inr 77)), none, none, none, some (.inl v1), none] [] s4 (k79 s4)) (fun s4 => ?_) (fun k79 hk79 => ?_)
    · refine j_aload_n dX0_changeAtCut_79 rfl rfl ?_
      refine j_iload dX0_changeAtCut_80 rfl ?_
      refine j_callVv (mX0_note (kl K) (kD K) (kad K) (kcA K) v1 s4) cw_RX0_49 sh_77 rfl ⟨rfl, rfl, by decide, by decide⟩ rfl rfl (Nat.le_of_ble_eq_true rfl) dX0_changeAtCut_82 (fun _ s6 => ?_)
      exact j_vret hq dX0_changeAtCut_85
    refine j_if_ne (tgt := 79) dX0_changeAtCut_43 rfl ?_ ?_
    · exact j_msk [true, false, false, false, true, false] (hk79 _)
    · refine j_aload_n dX0_changeAtCut_46 rfl rfl ?_
      refine j_getI fl_RX0_15 sh_77 rfl dX0_changeAtCut_47 ?_
      refine j_aload_n dX0_changeAtCut_50 rfl rfl ?_
      refine j_getR fl_RX0_9 sh_77 rfl dX0_changeAtCut_51 ?_
      refine j_alen sh_78 (by decide) dX0_changeAtCut_54 ?_
      refine j_icmp_ge (tgt := 79) dX0_changeAtCut_55 rfl ?_ ?_
      · exact j_msk [true, false, false, false, true, false] (hk79 _)
      · refine j_aload_n dX0_changeAtCut_58 rfl rfl ?_
        refine j_getR fl_RX0_9 sh_77 rfl dX0_changeAtCut_59 ?_
        refine j_aload_n dX0_changeAtCut_62 rfl rfl ?_
        refine j_getI fl_RX0_15 sh_77 rfl dX0_changeAtCut_63 ?_
        refine j_iload dX0_changeAtCut_66 rfl ?_
        refine j_iast sh_78 dX0_changeAtCut_68 (fun s7 => ?_)
        refine j_aload_n dX0_changeAtCut_69 rfl rfl ?_
        refine j_dup rfl dX0_changeAtCut_70 ?_
        refine j_getI fl_RX0_15 sh_77 rfl dX0_changeAtCut_71 ?_
        refine j_iconst dX0_changeAtCut_74 (inr_d rfl) ?_
        refine j_iadd dX0_changeAtCut_75 ?_
        refine j_putI fp_RX0_15 sh_77 rfl dX0_changeAtCut_76 (fun s8 => ?_)
        exact j_msk [true, false, false, false, true, false] (hk79 _)
  refine j_if_eq (tgt := 34) dX0_changeAtCut_12 rfl ?_ ?_
  · refine j_iconst dX0_changeAtCut_34 (inr_d rfl) ?_
    refine j_goto (tgt := 39) dX0_changeAtCut_35 rfl ?_
    exact j_msk [true, false, false, false, true, false] (hk39 _ _)
  · refine j_iload dX0_changeAtCut_15 rfl ?_
    refine j_aload_n dX0_changeAtCut_17 rfl rfl ?_
    refine j_getI fl_RX0_42 sh_77 rfl dX0_changeAtCut_18 ?_
    refine j_isub dX0_changeAtCut_21 ?_
    refine j_iload_n dX0_changeAtCut_22 rfl rfl ?_
    refine j_icmp_ge (tgt := 34) dX0_changeAtCut_23 rfl ?_ ?_
    · refine j_iconst dX0_changeAtCut_34 (inr_d rfl) ?_
      refine j_goto (tgt := 39) dX0_changeAtCut_35 rfl ?_
      exact j_msk [true, false, false, false, true, false] (hk39 _ _)
    · refine j_aload_n dX0_changeAtCut_26 rfl rfl ?_
      refine j_iload_n dX0_changeAtCut_27 rfl rfl ?_
      refine j_callSi (mX0_isFree (kl K) (kD K) (kad K) (kcA K) t1 h1 a2 s0) cw_RX0_45 ⟨rfl, rfl, by decide, by decide⟩ rfl rfl (Nat.le_of_ble_eq_true rfl) dX0_changeAtCut_28 (fun r9 s10 => ?_)
      refine j_if_eq (tgt := 38) dX0_changeAtCut_31 rfl ?_ ?_
      · refine j_iconst dX0_changeAtCut_38 (inr_d rfl) ?_
        exact j_msk [true, false, false, false, true, false] (hk39 _ _)
      · refine j_iconst dX0_changeAtCut_34 (inr_d rfl) ?_
        refine j_goto (tgt := 39) dX0_changeAtCut_35 rfl ?_
        exact j_msk [true, false, false, false, true, false] (hk39 _ _)
abbrev rmX6_changesWithin : Room := { frames := 3, cells := 0, slots := 0, locals := 70 }
theorem dX6_changesWithin_0 : decode cX6_changesWithin 0 = .ok (.iconst 0, 1) := by decide +kernel
theorem dX6_changesWithin_1 : decode cX6_changesWithin 1 = .ok (.istore_n 3, 1) := by decide +kernel
theorem dX6_changesWithin_2 : decode cX6_changesWithin 2 = .ok (.iload_n 3, 1) := by decide +kernel
theorem dX6_changesWithin_3 : decode cX6_changesWithin 3 = .ok (.iconst 3, 1) := by decide +kernel
theorem dX6_changesWithin_4 : decode cX6_changesWithin 4 = .ok (.if_icmp .ge 30, 3) := by decide +kernel
theorem dX6_changesWithin_7 : decode cX6_changesWithin 7 = .ok (.aload_n 0, 1) := by decide +kernel
theorem dX6_changesWithin_8 : decode cX6_changesWithin 8 = .ok (.iload_n 1, 1) := by decide +kernel
theorem dX6_changesWithin_9 : decode cX6_changesWithin 9 = .ok (.iload_n 2, 1) := by decide +kernel
theorem dX6_changesWithin_10 : decode cX6_changesWithin 10 = .ok (.iload_n 3, 1) := by decide +kernel
theorem dX6_changesWithin_11 : decode cX6_changesWithin 11 = .ok (.invokevirtual 61, 3) := by decide +kernel
theorem dX6_changesWithin_14 : decode cX6_changesWithin 14 = .ok (.aload_n 0, 1) := by decide +kernel
theorem dX6_changesWithin_15 : decode cX6_changesWithin 15 = .ok (.iload_n 1, 1) := by decide +kernel
theorem dX6_changesWithin_16 : decode cX6_changesWithin 16 = .ok (.iload_n 2, 1) := by decide +kernel
theorem dX6_changesWithin_17 : decode cX6_changesWithin 17 = .ok (.iconst 1, 1) := by decide +kernel
theorem dX6_changesWithin_18 : decode cX6_changesWithin 18 = .ok (.isub, 1) := by decide +kernel
theorem dX6_changesWithin_19 : decode cX6_changesWithin 19 = .ok (.iload_n 3, 1) := by decide +kernel
theorem dX6_changesWithin_20 : decode cX6_changesWithin 20 = .ok (.invokevirtual 61, 3) := by decide +kernel
theorem dX6_changesWithin_23 : decode cX6_changesWithin 23 = .ok (.if_icmp .eq 5, 3) := by decide +kernel
theorem dX6_changesWithin_26 : decode cX6_changesWithin 26 = .ok (.iconst 1, 1) := by decide +kernel
theorem dX6_changesWithin_27 : decode cX6_changesWithin 27 = .ok (.ireturn, 1) := by decide +kernel
theorem dX6_changesWithin_28 : decode cX6_changesWithin 28 = .ok (.iinc 3 1, 3) := by decide +kernel
theorem dX6_changesWithin_31 : decode cX6_changesWithin 31 = .ok (.goto (-29), 3) := by decide +kernel
theorem dX6_changesWithin_34 : decode cX6_changesWithin 34 = .ok (.iconst 0, 1) := by decide +kernel
theorem dX6_changesWithin_35 : decode cX6_changesWithin 35 = .ok (.ireturn, 1) := by decide +kernel
def LX6_changesWithin_2 (t0 : Nat) (c1 : Int) (c2 : Int) (k34 : Mem → Option Res) : Nat → Int → Mem → Option Res
  | 0 => fun _ _ => none
  | n + 1 => fun x3 s => (if 3 ≤ x3 then
 k34 s
 else
 bnd (fX6_lightIn t0 c1 c2 x3 s) (fun r1 s2 =>
 bnd (fX6_lightIn t0 c1 (wr (c2 - 1)) x3 s2) (fun r3 s4 =>
 (if r1 = r3 then
 LX6_changesWithin_2 t0 c1 c2 k34 n (wr (x3 + 1)) s4
 else
 zr 1 s4))))
def fX6_changesWithin (t0 : Nat) (a1 : Int) (a2 : Int) (s0 : Mem) : Option Res :=
 LX6_changesWithin_2 t0 a1 a2 (fun s5 =>
 zr 0 s5) FU 0 s0
set_option maxRecDepth 100000 in
set_option maxHeartbeats 4000000 in
theorem jLX6_changesWithin_2 {K : KT} (hq : KI K (some .boolean)) (t0 : Nat) (h0 : isSc t0) (c1 : Int) (c2 : Int) (k34 : Mem → Option Res) (hk34 : ∀ (s : Mem), J K rmX6_changesWithin cX6_changesWithin RX6 4 34 [none, none, none, none] [] s (k34 s)) : ∀ (n : Nat) (x3 : Int) (s : Mem), J K rmX6_changesWithin cX6_changesWithin RX6 4 2 [some (.inr (.inr t0)), some (.inl c1), some (.inl c2), some (.inl x3)] [] s (LX6_changesWithin_2 t0 c1 c2 k34 n x3 s) := by
  intro n
  induction n with
  | zero => intros; exact J_none
  | succ n ih =>
    intro x3 s
    show J K _ _ _ _ _ _ _ _ (LX6_changesWithin_2 t0 c1 c2 k34 (n + 1) x3 s)
    simp only [LX6_changesWithin_2]
    refine j_iload_n dX6_changesWithin_2 rfl rfl ?_
    refine j_iconst dX6_changesWithin_3 (inr_d rfl) ?_
    refine j_icmp_ge (tgt := 34) dX6_changesWithin_4 rfl ?_ ?_
    · exact j_msk [false, false, false, false] (hk34 _)
    · refine j_aload_n dX6_changesWithin_7 rfl rfl ?_
      refine j_iload_n dX6_changesWithin_8 rfl rfl ?_
      refine j_iload_n dX6_changesWithin_9 rfl rfl ?_
      refine j_iload_n dX6_changesWithin_10 rfl rfl ?_
      refine j_callVi (mX6_lightIn (kl K) (kD K) (kad K) (kcA K) t0 h0 c1 c2 x3 s) cw_RX6_61 (sc_o h0) rfl ⟨rfl, rfl, by decide, by decide⟩ rfl rfl (Nat.le_of_ble_eq_true rfl) dX6_changesWithin_11 (fun r1 s2 => ?_)
      refine j_aload_n dX6_changesWithin_14 rfl rfl ?_
      refine j_iload_n dX6_changesWithin_15 rfl rfl ?_
      refine j_iload_n dX6_changesWithin_16 rfl rfl ?_
      refine j_iconst dX6_changesWithin_17 (inr_d rfl) ?_
      refine j_isub dX6_changesWithin_18 ?_
      refine j_iload_n dX6_changesWithin_19 rfl rfl ?_
      refine j_callVi (mX6_lightIn (kl K) (kD K) (kad K) (kcA K) t0 h0 c1 (wr (c2 - 1)) x3 s2) cw_RX6_61 (sc_o h0) rfl ⟨rfl, rfl, by decide, by decide⟩ rfl rfl (Nat.le_of_ble_eq_true rfl) dX6_changesWithin_20 (fun r3 s4 => ?_)
      refine j_icmp_eq (tgt := 28) dX6_changesWithin_23 rfl ?_ ?_
      · refine j_iincE (ls2 := [some (.inr (.inr t0)), some (.inl c1), some (.inl c2), some (.inl (wr (x3 + 1)))]) dX6_changesWithin_28 rfl (by decide) rfl rfl ?_
        refine j_goto (tgt := 2) dX6_changesWithin_31 rfl ?_
        exact j_msk [true, true, true, true] (ih _ _)
      · refine j_iconst dX6_changesWithin_26 (inr_d rfl) ?_
        exact j_zret hq dX6_changesWithin_27
set_option maxRecDepth 100000 in
set_option maxHeartbeats 4000000 in
theorem mX6_changesWithin (l : Launch) (D : va_G) (ad : Nat → Nat) (cA : Nat → ClassId) (t0 : Nat) (h0 : isSc t0) (a1 : Int) (a2 : Int) (s0 : Mem) : MCi l D ad cA yX6_changesWithin cX6_changesWithin 4 (some .boolean) rmX6_changesWithin [.inr (.inr t0), .inl a1, .inl a2] s0 (fX6_changesWithin t0 a1 a2 s0) := by
  refine MCi_ofE (own := RX6) (ls := [some (.inr (.inr t0)), some (.inl a1), some (.inl a2), none]) 1 (by decide +kernel) rfl rfl (fun _ => Nat.le_of_ble_eq_true rfl) (fun K hq => ?_)
  unfold fX6_changesWithin
  refine j_iconst dX6_changesWithin_0 (inr_d rfl) ?_
  refine j_istore_nE (ls2 := [some (.inr (.inr t0)), some (.inl a1), some (.inl a2), some (.inl 0)]) dX6_changesWithin_1 rfl (by decide) rfl rfl ?_
  refine j_msk [true, true, true, true] (jLX6_changesWithin_2 hq t0 h0 _ _ _ (fun s5 => ?_) _ _ _)
  refine j_iconst dX6_changesWithin_34 (inr_d rfl) ?_
  exact j_zret hq dX6_changesWithin_35
abbrev rmX0_walkWithin : Room := { frames := 4, cells := 0, slots := 0, locals := 93 }
theorem dX0_walkWithin_0 : decode cX0_walkWithin 0 = .ok (.aload_n 1, 1) := by decide +kernel
theorem dX0_walkWithin_1 : decode cX0_walkWithin 1 = .ok (.iload_n 2, 1) := by decide +kernel
theorem dX0_walkWithin_2 : decode cX0_walkWithin 2 = .ok (.invokevirtual 60, 3) := by decide +kernel
theorem dX0_walkWithin_5 : decode cX0_walkWithin 5 = .ok (.istore_n 3, 1) := by decide +kernel
theorem dX0_walkWithin_6 : decode cX0_walkWithin 6 = .ok (.iconst 1, 1) := by decide +kernel
theorem dX0_walkWithin_7 : decode cX0_walkWithin 7 = .ok (.istore 4, 2) := by decide +kernel
theorem dX0_walkWithin_9 : decode cX0_walkWithin 9 = .ok (.iload 4, 2) := by decide +kernel
theorem dX0_walkWithin_11 : decode cX0_walkWithin 11 = .ok (.iload_n 3, 1) := by decide +kernel
theorem dX0_walkWithin_12 : decode cX0_walkWithin 12 = .ok (.if_icmp .ge 64, 3) := by decide +kernel
theorem dX0_walkWithin_15 : decode cX0_walkWithin 15 = .ok (.aload_n 1, 1) := by decide +kernel
theorem dX0_walkWithin_16 : decode cX0_walkWithin 16 = .ok (.iload_n 2, 1) := by decide +kernel
theorem dX0_walkWithin_17 : decode cX0_walkWithin 17 = .ok (.iload 4, 2) := by decide +kernel
theorem dX0_walkWithin_19 : decode cX0_walkWithin 19 = .ok (.invokevirtual 53, 3) := by decide +kernel
theorem dX0_walkWithin_22 : decode cX0_walkWithin 22 = .ok (.ifCond .ne 13, 3) := by decide +kernel
theorem dX0_walkWithin_25 : decode cX0_walkWithin 25 = .ok (.aload_n 1, 1) := by decide +kernel
theorem dX0_walkWithin_26 : decode cX0_walkWithin 26 = .ok (.iload_n 2, 1) := by decide +kernel
theorem dX0_walkWithin_27 : decode cX0_walkWithin 27 = .ok (.iload 4, 2) := by decide +kernel
theorem dX0_walkWithin_29 : decode cX0_walkWithin 29 = .ok (.invokevirtual 57, 3) := by decide +kernel
theorem dX0_walkWithin_32 : decode cX0_walkWithin 32 = .ok (.ifCond .eq 7, 3) := by decide +kernel
theorem dX0_walkWithin_35 : decode cX0_walkWithin 35 = .ok (.iconst 1, 1) := by decide +kernel
theorem dX0_walkWithin_36 : decode cX0_walkWithin 36 = .ok (.goto 4, 3) := by decide +kernel
theorem dX0_walkWithin_39 : decode cX0_walkWithin 39 = .ok (.iconst 0, 1) := by decide +kernel
theorem dX0_walkWithin_40 : decode cX0_walkWithin 40 = .ok (.istore 5, 2) := by decide +kernel
theorem dX0_walkWithin_42 : decode cX0_walkWithin 42 = .ok (.iload 5, 2) := by decide +kernel
theorem dX0_walkWithin_44 : decode cX0_walkWithin 44 = .ok (.ifCond .eq 26, 3) := by decide +kernel
theorem dX0_walkWithin_47 : decode cX0_walkWithin 47 = .ok (.aload_n 1, 1) := by decide +kernel
theorem dX0_walkWithin_48 : decode cX0_walkWithin 48 = .ok (.iload_n 2, 1) := by decide +kernel
theorem dX0_walkWithin_49 : decode cX0_walkWithin 49 = .ok (.iload 4, 2) := by decide +kernel
theorem dX0_walkWithin_51 : decode cX0_walkWithin 51 = .ok (.invokevirtual 63, 3) := by decide +kernel
theorem dX0_walkWithin_54 : decode cX0_walkWithin 54 = .ok (.ifCond .eq 16, 3) := by decide +kernel
theorem dX0_walkWithin_57 : decode cX0_walkWithin 57 = .ok (.aload_n 0, 1) := by decide +kernel
theorem dX0_walkWithin_58 : decode cX0_walkWithin 58 = .ok (.aload_n 1, 1) := by decide +kernel
theorem dX0_walkWithin_59 : decode cX0_walkWithin 59 = .ok (.getfield 39, 3) := by decide +kernel
theorem dX0_walkWithin_62 : decode cX0_walkWithin 62 = .ok (.iload_n 2, 1) := by decide +kernel
theorem dX0_walkWithin_63 : decode cX0_walkWithin 63 = .ok (.iaload, 1) := by decide +kernel
theorem dX0_walkWithin_64 : decode cX0_walkWithin 64 = .ok (.iload 4, 2) := by decide +kernel
theorem dX0_walkWithin_66 : decode cX0_walkWithin 66 = .ok (.iadd, 1) := by decide +kernel
theorem dX0_walkWithin_67 : decode cX0_walkWithin 67 = .ok (.invokevirtual 49, 3) := by decide +kernel
theorem dX0_walkWithin_70 : decode cX0_walkWithin 70 = .ok (.iinc 4 1, 3) := by decide +kernel
theorem dX0_walkWithin_73 : decode cX0_walkWithin 73 = .ok (.goto (-64), 3) := by decide +kernel
theorem dX0_walkWithin_76 : decode cX0_walkWithin 76 = .ok (.return_, 1) := by decide +kernel
def LX0_walkWithin_9 (t1 : Nat) (c2 : Int) (c3 : Int) (k76 : Mem → Option Res) : Nat → Int → Mem → Option Res
  | 0 => fun _ _ => none
  | n + 1 => fun x4 s => (if c3 ≤ x4 then
 k76 s
 else
 bnd (fX6_isInFade t1 c2 x4 s) (fun r3 s4 =>
 jn (fun (u5 : Int) (s6 : Mem) =>
 (if u5 = 0 then
 LX0_walkWithin_9 t1 c2 c3 k76 n (wr (x4 + 1)) s6
 else
 bnd (fX6_changesWithin t1 c2 x4 s6) (fun r7 s8 =>
 (if r7 = 0 then
 LX0_walkWithin_9 t1 c2 c3 k76 n (wr (x4 + 1)) s8
 else
 rd (s8 (t1 + 1)) c2 17 (fun v9 =>
 bnd (fX0_note (wr (v9 + x4)) s8) (fun _ s11 =>
 LX0_walkWithin_9 t1 c2 c3 k76 n (wr (x4 + 1)) s11)))))) (fun k40 =>
 (if r3 ≠ 0 then
 k40 1 s4
 else
 bnd (fX6_isAtEffect t1 c2 x4 s4) (fun r12 s13 =>
 (if r12 = 0 then
 k40 0 s13
 else
 k40 1 s13))))))
def fX0_walkWithin (t1 : Nat) (a2 : Int) (s0 : Mem) : Option Res :=
 bnd (fX6_framesOf t1 a2 s0) (fun r1 s2 =>
 LX0_walkWithin_9 t1 a2 r1 (fun s14 =>
 some (0, s14)) FU 1 s2)
set_option maxRecDepth 100000 in
set_option maxHeartbeats 4000000 in
theorem jLX0_walkWithin_9 {K : KT} (hq : KV K none) (t1 : Nat) (h1 : isSc t1) (c2 : Int) (c3 : Int) (k76 : Mem → Option Res) (hk76 : ∀ (s : Mem), J K rmX0_walkWithin cX0_walkWithin RX0 6 76 [none, none, none, none, none, none] [] s (k76 s)) : ∀ (n : Nat) (x4 : Int) (s : Mem), J K rmX0_walkWithin cX0_walkWithin RX0 6 9 [some (.inr (.inr 77)), some (.inr (.inr t1)), some (.inl c2), some (.inl c3), some (.inl x4), none] [] s (LX0_walkWithin_9 t1 c2 c3 k76 n x4 s) := by
  intro n
  induction n with
  | zero => intros; exact J_none
  | succ n ih =>
    intro x4 s
    show J K _ _ _ _ _ _ _ _ (LX0_walkWithin_9 t1 c2 c3 k76 (n + 1) x4 s)
    simp only [LX0_walkWithin_9]
    refine j_iload dX0_walkWithin_9 rfl ?_
    refine j_iload_n dX0_walkWithin_11 rfl rfl ?_
    refine j_icmp_ge (tgt := 76) dX0_walkWithin_12 rfl ?_ ?_
    · exact j_msk [false, false, false, false, false, false] (hk76 _)
    · refine j_aload_n dX0_walkWithin_15 rfl rfl ?_
      refine j_iload_n dX0_walkWithin_16 rfl rfl ?_
      refine j_iload dX0_walkWithin_17 rfl ?_
      refine j_callVi (mX6_isInFade (kl K) (kD K) (kad K) (kcA K) t1 h1 c2 x4 s) cw_RX0_53 (sc_o h1) rfl ⟨rfl, rfl, by decide, by decide⟩ rfl rfl (Nat.le_of_ble_eq_true rfl) dX0_walkWithin_19 (fun r3 s4 => ?_)
      refine j_jn (fun k40 => ∀ (u5 : Int) (s6 : Mem), J K rmX0_walkWithin cX0_walkWithin RX0 6 40 [some (.inr (.inr 77)), some (.inr (.inr t1)), some (.inl c2), some (.inl c3), some (.inl x4), none] [.inl u5] s6 (k40 u5 s6)) (fun u5 s6 => ?_) (fun k40 hk40 => ?_)
      · refine j_istoreE (ls2 := [some (.inr (.inr 77)), some (.inr (.inr t1)), some (.inl c2), some (.inl c3), some (.inl x4), some (.inl u5)]) dX0_walkWithin_40 (by decide) rfl rfl ?_
        refine j_iload dX0_walkWithin_42 rfl ?_
        refine j_if_eq (tgt := 70) dX0_walkWithin_44 rfl ?_ ?_
        · refine j_iincE (ls2 := [some (.inr (.inr 77)), some (.inr (.inr t1)), some (.inl c2), some (.inl c3), some (.inl (wr (x4 + 1))), some (.inl u5)]) dX0_walkWithin_70 rfl (by decide) rfl rfl ?_
          refine j_goto (tgt := 9) dX0_walkWithin_73 rfl ?_
          exact j_msk [true, true, true, true, true, false] (ih _ _)
        · refine j_aload_n dX0_walkWithin_47 rfl rfl ?_
          refine j_iload_n dX0_walkWithin_48 rfl rfl ?_
          refine j_iload dX0_walkWithin_49 rfl ?_
          refine j_callVi (mX6_changesWithin (kl K) (kD K) (kad K) (kcA K) t1 h1 c2 x4 s6) cw_RX0_63 (sc_o h1) rfl ⟨rfl, rfl, by decide, by decide⟩ rfl rfl (Nat.le_of_ble_eq_true rfl) dX0_walkWithin_51 (fun r7 s8 => ?_)
          refine j_if_eq (tgt := 70) dX0_walkWithin_54 rfl ?_ ?_
          · refine j_iincE (ls2 := [some (.inr (.inr 77)), some (.inr (.inr t1)), some (.inl c2), some (.inl c3), some (.inl (wr (x4 + 1))), some (.inl u5)]) dX0_walkWithin_70 rfl (by decide) rfl rfl ?_
            refine j_goto (tgt := 9) dX0_walkWithin_73 rfl ?_
            exact j_msk [true, true, true, true, true, false] (ih _ _)
          · refine j_aload_n dX0_walkWithin_57 rfl rfl ?_
            refine j_aload_n dX0_walkWithin_58 rfl rfl ?_
            refine j_getR fl_RX0_39 (sc_o h1) rfl dX0_walkWithin_59 ?_
            refine j_iload_n dX0_walkWithin_62 rfl rfl ?_
            refine j_iald (sc_2 h1) dX0_walkWithin_63 (fun v9 => ?_)
            refine j_iload dX0_walkWithin_64 rfl ?_
            refine j_iadd dX0_walkWithin_66 ?_
            refine j_callVv (mX0_note (kl K) (kD K) (kad K) (kcA K) (wr (v9 + x4)) s8) cw_RX0_49 sh_77 rfl ⟨rfl, rfl, by decide, by decide⟩ rfl rfl (Nat.le_of_ble_eq_true rfl) dX0_walkWithin_67 (fun _ s11 => ?_)
            refine j_iincE (ls2 := [some (.inr (.inr 77)), some (.inr (.inr t1)), some (.inl c2), some (.inl c3), some (.inl (wr (x4 + 1))), some (.inl u5)]) dX0_walkWithin_70 rfl (by decide) rfl rfl ?_
            refine j_goto (tgt := 9) dX0_walkWithin_73 rfl ?_
            exact j_msk [true, true, true, true, true, false] (ih _ _)
      refine j_if_ne (tgt := 35) dX0_walkWithin_22 rfl ?_ ?_
      · refine j_iconst dX0_walkWithin_35 (inr_d rfl) ?_
        refine j_goto (tgt := 40) dX0_walkWithin_36 rfl ?_
        exact j_msk [true, true, true, true, true, false] (hk40 _ _)
      · refine j_aload_n dX0_walkWithin_25 rfl rfl ?_
        refine j_iload_n dX0_walkWithin_26 rfl rfl ?_
        refine j_iload dX0_walkWithin_27 rfl ?_
        refine j_callVi (mX6_isAtEffect (kl K) (kD K) (kad K) (kcA K) t1 h1 c2 x4 s4) cw_RX0_57 (sc_o h1) rfl ⟨rfl, rfl, by decide, by decide⟩ rfl rfl (Nat.le_of_ble_eq_true rfl) dX0_walkWithin_29 (fun r12 s13 => ?_)
        refine j_if_eq (tgt := 39) dX0_walkWithin_32 rfl ?_ ?_
        · refine j_iconst dX0_walkWithin_39 (inr_d rfl) ?_
          exact j_msk [true, true, true, true, true, false] (hk40 _ _)
        · refine j_iconst dX0_walkWithin_35 (inr_d rfl) ?_
          refine j_goto (tgt := 40) dX0_walkWithin_36 rfl ?_
          exact j_msk [true, true, true, true, true, false] (hk40 _ _)
set_option maxRecDepth 100000 in
set_option maxHeartbeats 4000000 in
theorem mX0_walkWithin (l : Launch) (D : va_G) (ad : Nat → Nat) (cA : Nat → ClassId) (t1 : Nat) (h1 : isSc t1) (a2 : Int) (s0 : Mem) : MCv l D ad cA yX0_walkWithin cX0_walkWithin 6 none rmX0_walkWithin [.inr (.inr 77), .inr (.inr t1), .inl a2] s0 (fX0_walkWithin t1 a2 s0) := by
  refine MCv_ofE (own := RX0) (ls := [some (.inr (.inr 77)), some (.inr (.inr t1)), some (.inl a2), none, none, none]) 3 (by decide +kernel) rfl rfl (fun _ => Nat.le_of_ble_eq_true rfl) (fun K hq => ?_)
  unfold fX0_walkWithin
  refine j_aload_n dX0_walkWithin_0 rfl rfl ?_
  refine j_iload_n dX0_walkWithin_1 rfl rfl ?_
  refine j_callVi (mX6_framesOf (kl K) (kD K) (kad K) (kcA K) t1 h1 a2 s0) cw_RX0_60 (sc_o h1) rfl ⟨rfl, rfl, by decide, by decide⟩ rfl rfl (Nat.le_of_ble_eq_true rfl) dX0_walkWithin_2 (fun r1 s2 => ?_)
  refine j_istore_nE (ls2 := [some (.inr (.inr 77)), some (.inr (.inr t1)), some (.inl a2), some (.inl r1), none, none]) dX0_walkWithin_5 rfl (by decide) rfl rfl ?_
  refine j_iconst dX0_walkWithin_6 (inr_d rfl) ?_
  refine j_istoreE (ls2 := [some (.inr (.inr 77)), some (.inr (.inr t1)), some (.inl a2), some (.inl r1), some (.inl 1), none]) dX0_walkWithin_7 (by decide) rfl rfl ?_
  refine j_msk [true, true, true, true, true, false] (jLX0_walkWithin_9 hq t1 h1 _ _ _ (fun s14 => ?_) _ _ _)
  exact j_vret hq dX0_walkWithin_76
abbrev rmX0_walk : Room := { frames := 5, cells := 0, slots := 0, locals := 118 }
theorem dX0_walk_0 : decode cX0_walk 0 = .ok (.aload_n 0, 1) := by decide +kernel
theorem dX0_walk_1 : decode cX0_walk 1 = .ok (.iconst 0, 1) := by decide +kernel
theorem dX0_walk_2 : decode cX0_walk 2 = .ok (.putfield 15, 3) := by decide +kernel
theorem dX0_walk_5 : decode cX0_walk 5 = .ok (.aload_n 0, 1) := by decide +kernel
theorem dX0_walk_6 : decode cX0_walk 6 = .ok (.iconst 0, 1) := by decide +kernel
theorem dX0_walk_7 : decode cX0_walk 7 = .ok (.putfield 19, 3) := by decide +kernel
theorem dX0_walk_10 : decode cX0_walk 10 = .ok (.iconst 0, 1) := by decide +kernel
theorem dX0_walk_11 : decode cX0_walk 11 = .ok (.istore_n 3, 1) := by decide +kernel
theorem dX0_walk_12 : decode cX0_walk 12 = .ok (.iload_n 3, 1) := by decide +kernel
theorem dX0_walk_13 : decode cX0_walk 13 = .ok (.aload_n 1, 1) := by decide +kernel
theorem dX0_walk_14 : decode cX0_walk 14 = .ok (.getfield 22, 3) := by decide +kernel
theorem dX0_walk_17 : decode cX0_walk 17 = .ok (.if_icmp .ge 36, 3) := by decide +kernel
theorem dX0_walk_20 : decode cX0_walk 20 = .ok (.iload_n 3, 1) := by decide +kernel
theorem dX0_walk_21 : decode cX0_walk 21 = .ok (.ifCond .le 20, 3) := by decide +kernel
theorem dX0_walk_24 : decode cX0_walk 24 = .ok (.aload_n 1, 1) := by decide +kernel
theorem dX0_walk_25 : decode cX0_walk 25 = .ok (.iload_n 3, 1) := by decide +kernel
theorem dX0_walk_26 : decode cX0_walk 26 = .ok (.iconst 1, 1) := by decide +kernel
theorem dX0_walk_27 : decode cX0_walk 27 = .ok (.isub, 1) := by decide +kernel
theorem dX0_walk_28 : decode cX0_walk 28 = .ok (.invokevirtual 27, 3) := by decide +kernel
theorem dX0_walk_31 : decode cX0_walk 31 = .ok (.ifCond .le 10, 3) := by decide +kernel
theorem dX0_walk_34 : decode cX0_walk 34 = .ok (.aload_n 0, 1) := by decide +kernel
theorem dX0_walk_35 : decode cX0_walk 35 = .ok (.aload_n 1, 1) := by decide +kernel
theorem dX0_walk_36 : decode cX0_walk 36 = .ok (.iload_n 3, 1) := by decide +kernel
theorem dX0_walk_37 : decode cX0_walk 37 = .ok (.iload_n 2, 1) := by decide +kernel
theorem dX0_walk_38 : decode cX0_walk 38 = .ok (.invokevirtual 31, 3) := by decide +kernel
theorem dX0_walk_41 : decode cX0_walk 41 = .ok (.aload_n 0, 1) := by decide +kernel
theorem dX0_walk_42 : decode cX0_walk 42 = .ok (.aload_n 1, 1) := by decide +kernel
theorem dX0_walk_43 : decode cX0_walk 43 = .ok (.iload_n 3, 1) := by decide +kernel
theorem dX0_walk_44 : decode cX0_walk 44 = .ok (.invokevirtual 35, 3) := by decide +kernel
theorem dX0_walk_47 : decode cX0_walk 47 = .ok (.iinc 3 1, 3) := by decide +kernel
theorem dX0_walk_50 : decode cX0_walk 50 = .ok (.goto (-38), 3) := by decide +kernel
theorem dX0_walk_53 : decode cX0_walk 53 = .ok (.return_, 1) := by decide +kernel
def LX0_walk_12 (t1 : Nat) (c2 : Int) (k53 : Mem → Option Res) : Nat → Int → Mem → Option Res
  | 0 => fun _ _ => none
  | n + 1 => fun x3 s => (if s t1 0 ≤ x3 then
 k53 s
 else
 jn (fun (s3 : Mem) =>
 bnd (fX0_walkWithin t1 x3 s3) (fun _ s5 =>
 LX0_walk_12 t1 c2 k53 n (wr (x3 + 1)) s5)) (fun k41 =>
 (if x3 ≤ 0 then
 k41 s
 else
 bnd (fX6_jumpBehind t1 (wr (x3 - 1)) s) (fun r6 s7 =>
 (if r6 ≤ 0 then
 k41 s7
 else
 bnd (fX0_changeAtCut t1 x3 c2 s7) (fun _ s9 =>
 k41 s9))))))
def fX0_walk (t1 : Nat) (a2 : Int) (s0 : Mem) : Option Res :=
 lt (up s0 77 1 0) (fun s1 =>
 lt (up s1 77 2 0) (fun s2 =>
 LX0_walk_12 t1 a2 (fun s10 =>
 some (0, s10)) FU 0 s2))
set_option maxRecDepth 100000 in
set_option maxHeartbeats 4000000 in
theorem jLX0_walk_12 {K : KT} (hq : KV K none) (t1 : Nat) (h1 : isSc t1) (c2 : Int) (k53 : Mem → Option Res) (hk53 : ∀ (s : Mem), J K rmX0_walk cX0_walk RX0 4 53 [none, none, none, none] [] s (k53 s)) : ∀ (n : Nat) (x3 : Int) (s : Mem), J K rmX0_walk cX0_walk RX0 4 12 [some (.inr (.inr 77)), some (.inr (.inr t1)), some (.inl c2), some (.inl x3)] [] s (LX0_walk_12 t1 c2 k53 n x3 s) := by
  intro n
  induction n with
  | zero => intros; exact J_none
  | succ n ih =>
    intro x3 s
    show J K _ _ _ _ _ _ _ _ (LX0_walk_12 t1 c2 k53 (n + 1) x3 s)
    simp only [LX0_walk_12]
    refine j_iload_n dX0_walk_12 rfl rfl ?_
    refine j_aload_n dX0_walk_13 rfl rfl ?_
    refine j_getI fl_RX0_22 (sc_o h1) rfl dX0_walk_14 ?_
    refine j_icmp_ge (tgt := 53) dX0_walk_17 rfl ?_ ?_
    · exact j_msk [false, false, false, false] (hk53 _)
    · refine j_iload_n dX0_walk_20 rfl rfl ?_
      refine j_jn (fun k41 => ∀ (s3 : Mem), J K rmX0_walk cX0_walk RX0 4 41 [some (.inr (.inr 77)), some (.inr (.inr t1)), some (.inl c2), some (.inl x3)] [] s3 (k41 s3)) (fun s3 => ?_) (fun k41 hk41 => ?_)
      · refine j_aload_n dX0_walk_41 rfl rfl ?_
        refine j_aload_n dX0_walk_42 rfl rfl ?_
        refine j_iload_n dX0_walk_43 rfl rfl ?_
        refine j_callVv (mX0_walkWithin (kl K) (kD K) (kad K) (kcA K) t1 h1 x3 s3) cw_RX0_35 sh_77 rfl ⟨rfl, rfl, by decide, by decide⟩ rfl rfl (Nat.le_of_ble_eq_true rfl) dX0_walk_44 (fun _ s5 => ?_)
        refine j_iincE (ls2 := [some (.inr (.inr 77)), some (.inr (.inr t1)), some (.inl c2), some (.inl (wr (x3 + 1)))]) dX0_walk_47 rfl (by decide) rfl rfl ?_
        refine j_goto (tgt := 12) dX0_walk_50 rfl ?_
        exact j_msk [true, true, true, true] (ih _ _)
      refine j_if_le (tgt := 41) dX0_walk_21 rfl ?_ ?_
      · exact j_msk [true, true, true, true] (hk41 _)
      · refine j_aload_n dX0_walk_24 rfl rfl ?_
        refine j_iload_n dX0_walk_25 rfl rfl ?_
        refine j_iconst dX0_walk_26 (inr_d rfl) ?_
        refine j_isub dX0_walk_27 ?_
        refine j_callVi (mX6_jumpBehind (kl K) (kD K) (kad K) (kcA K) t1 h1 (wr (x3 - 1)) s) cw_RX0_27 (sc_o h1) rfl ⟨rfl, rfl, by decide, by decide⟩ rfl rfl (Nat.le_of_ble_eq_true rfl) dX0_walk_28 (fun r6 s7 => ?_)
        refine j_if_le (tgt := 41) dX0_walk_31 rfl ?_ ?_
        · exact j_msk [true, true, true, true] (hk41 _)
        · refine j_aload_n dX0_walk_34 rfl rfl ?_
          refine j_aload_n dX0_walk_35 rfl rfl ?_
          refine j_iload_n dX0_walk_36 rfl rfl ?_
          refine j_iload_n dX0_walk_37 rfl rfl ?_
          refine j_callVv (mX0_changeAtCut (kl K) (kD K) (kad K) (kcA K) t1 h1 x3 c2 s7) cw_RX0_31 sh_77 rfl ⟨rfl, rfl, by decide, by decide⟩ rfl rfl (Nat.le_of_ble_eq_true rfl) dX0_walk_38 (fun _ s9 => ?_)
          exact j_msk [true, true, true, true] (hk41 _)
set_option maxRecDepth 100000 in
set_option maxHeartbeats 4000000 in
theorem mX0_walk (l : Launch) (D : va_G) (ad : Nat → Nat) (cA : Nat → ClassId) (t1 : Nat) (h1 : isSc t1) (a2 : Int) (s0 : Mem) : MCv l D ad cA yX0_walk cX0_walk 4 none rmX0_walk [.inr (.inr 77), .inr (.inr t1), .inl a2] s0 (fX0_walk t1 a2 s0) := by
  refine MCv_ofE (own := RX0) (ls := [some (.inr (.inr 77)), some (.inr (.inr t1)), some (.inl a2), none]) 1 (by decide +kernel) rfl rfl (fun _ => Nat.le_of_ble_eq_true rfl) (fun K hq => ?_)
  unfold fX0_walk
  refine j_aload_n dX0_walk_0 rfl rfl ?_
  refine j_iconst dX0_walk_1 (inr_d rfl) ?_
  refine j_putI fp_RX0_15 sh_77 rfl dX0_walk_2 (fun s1 => ?_)
  refine j_aload_n dX0_walk_5 rfl rfl ?_
  refine j_iconst dX0_walk_6 (inr_d rfl) ?_
  refine j_putI fp_RX0_19 sh_77 rfl dX0_walk_7 (fun s2 => ?_)
  refine j_iconst dX0_walk_10 (inr_d rfl) ?_
  refine j_istore_nE (ls2 := [some (.inr (.inr 77)), some (.inr (.inr t1)), some (.inl a2), some (.inl 0)]) dX0_walk_11 rfl (by decide) rfl rfl ?_
  refine j_msk [true, true, true, true] (jLX0_walk_12 hq t1 h1 _ _ (fun s10 => ?_) _ _ _)
  exact j_vret hq dX0_walk_53
abbrev rmJ7_fill_53178 : Room := { frames := 0, cells := 0, slots := 0, locals := 0 }
theorem dJ7_fill_53178_0 : decode cJ7_fill_53178 0 = .ok (.iconst 0, 1) := by decide +kernel
theorem dJ7_fill_53178_1 : decode cJ7_fill_53178 1 = .ok (.istore_n 2, 1) := by decide +kernel
theorem dJ7_fill_53178_2 : decode cJ7_fill_53178 2 = .ok (.aload_n 0, 1) := by decide +kernel
theorem dJ7_fill_53178_3 : decode cJ7_fill_53178 3 = .ok (.arraylength, 1) := by decide +kernel
theorem dJ7_fill_53178_4 : decode cJ7_fill_53178 4 = .ok (.istore_n 3, 1) := by decide +kernel
theorem dJ7_fill_53178_5 : decode cJ7_fill_53178 5 = .ok (.iload_n 2, 1) := by decide +kernel
theorem dJ7_fill_53178_6 : decode cJ7_fill_53178 6 = .ok (.iload_n 3, 1) := by decide +kernel
theorem dJ7_fill_53178_7 : decode cJ7_fill_53178 7 = .ok (.if_icmp .ge 13, 3) := by decide +kernel
theorem dJ7_fill_53178_10 : decode cJ7_fill_53178 10 = .ok (.aload_n 0, 1) := by decide +kernel
theorem dJ7_fill_53178_11 : decode cJ7_fill_53178 11 = .ok (.iload_n 2, 1) := by decide +kernel
theorem dJ7_fill_53178_12 : decode cJ7_fill_53178 12 = .ok (.iload_n 1, 1) := by decide +kernel
theorem dJ7_fill_53178_13 : decode cJ7_fill_53178 13 = .ok (.iastore, 1) := by decide +kernel
theorem dJ7_fill_53178_14 : decode cJ7_fill_53178 14 = .ok (.iinc 2 1, 3) := by decide +kernel
theorem dJ7_fill_53178_17 : decode cJ7_fill_53178 17 = .ok (.goto (-12), 3) := by decide +kernel
theorem dJ7_fill_53178_20 : decode cJ7_fill_53178 20 = .ok (.return_, 1) := by decide +kernel
def LJ7_fill_53178_5 (q0 z0 : Nat) (c1 : Int) (c3 : Int) (k20 : Mem → Option Res) : Nat → Int → Mem → Option Res
  | 0 => fun _ _ => none
  | n + 1 => fun x2 s => (if c3 ≤ x2 then
 k20 s
 else
 ST s q0 x2 z0 c1 (fun s2 =>
 LJ7_fill_53178_5 q0 z0 c1 c3 k20 n (wr (x2 + 1)) s2))
def fJ7_fill_53178 (q0 z0 : Nat) (a1 : Int) (s0 : Mem) : Option Res :=
 lt ((z0 : Nat) : Int) (fun v1 =>
 LJ7_fill_53178_5 q0 z0 a1 v1 (fun s3 =>
 some (0, s3)) FU 0 s0)
set_option maxRecDepth 100000 in
set_option maxHeartbeats 4000000 in
theorem jLJ7_fill_53178_5 {K : KT} (hq : KV K none) (q0 z0 : Nat) (hq0 : SH q0 = some (.inl (0, z0))) (hn0 : z0 < 2147483648) (c1 : Int) (c3 : Int) (k20 : Mem → Option Res) (hk20 : ∀ (s : Mem), J K rmJ7_fill_53178 cJ7_fill_53178 RJ7 4 20 [none, none, none, none] [] s (k20 s)) : ∀ (n : Nat) (x2 : Int) (s : Mem), J K rmJ7_fill_53178 cJ7_fill_53178 RJ7 4 5 [some (.inr (.inr q0)), some (.inl c1), some (.inl x2), some (.inl c3)] [] s (LJ7_fill_53178_5 q0 z0 c1 c3 k20 n x2 s) := by
  intro n
  induction n with
  | zero => intros; exact J_none
  | succ n ih =>
    intro x2 s
    show J K _ _ _ _ _ _ _ _ (LJ7_fill_53178_5 q0 z0 c1 c3 k20 (n + 1) x2 s)
    simp only [LJ7_fill_53178_5]
    refine j_iload_n dJ7_fill_53178_5 rfl rfl ?_
    refine j_iload_n dJ7_fill_53178_6 rfl rfl ?_
    refine j_icmp_ge (tgt := 20) dJ7_fill_53178_7 rfl ?_ ?_
    · exact j_msk [false, false, false, false] (hk20 _)
    · refine j_aload_n dJ7_fill_53178_10 rfl rfl ?_
      refine j_iload_n dJ7_fill_53178_11 rfl rfl ?_
      refine j_iload_n dJ7_fill_53178_12 rfl rfl ?_
      refine j_iast hq0 dJ7_fill_53178_13 (fun s2 => ?_)
      refine j_iincE (ls2 := [some (.inr (.inr q0)), some (.inl c1), some (.inl (wr (x2 + 1))), some (.inl c3)]) dJ7_fill_53178_14 rfl (by decide) rfl rfl ?_
      refine j_goto (tgt := 5) dJ7_fill_53178_17 rfl ?_
      exact j_msk [true, true, true, true] (ih _ _)
set_option maxRecDepth 100000 in
set_option maxHeartbeats 4000000 in
theorem mJ7_fill_53178 (l : Launch) (D : va_G) (ad : Nat → Nat) (cA : Nat → ClassId) (q0 z0 : Nat) (hq0 : SH q0 = some (.inl (0, z0))) (hn0 : z0 < 2147483648) (a1 : Int) (s0 : Mem) : MCv l D ad cA yJ7_fill_53178 cJ7_fill_53178 4 none rmJ7_fill_53178 [.inr (.inr q0), .inl a1] s0 (fJ7_fill_53178 q0 z0 a1 s0) := by
  refine MCv_ofF (own := RJ7) (ls := [some (.inr (.inr q0)), some (.inl a1), none, none]) 2 (by decide +kernel) rfl rfl (fun _ => Nat.le_of_ble_eq_true rfl) (fun K hq => ?_)
  unfold fJ7_fill_53178
  refine j_iconst dJ7_fill_53178_0 (inr_d rfl) ?_
  refine j_istore_nE (ls2 := [some (.inr (.inr q0)), some (.inl a1), some (.inl 0), none]) dJ7_fill_53178_1 rfl (by decide) rfl rfl ?_
  refine j_aload_n dJ7_fill_53178_2 rfl rfl ?_
  refine j_alen hq0 hn0 dJ7_fill_53178_3 ?_
  refine j_ltv (fun v1 => ?_)
  refine j_istore_nE (ls2 := [some (.inr (.inr q0)), some (.inl a1), some (.inl 0), some (.inl v1)]) dJ7_fill_53178_4 rfl (by decide) rfl rfl ?_
  refine j_msk [true, true, true, true] (jLJ7_fill_53178_5 hq q0 z0 hq0 hn0 _ _ _ (fun s3 => ?_) _ _ _)
  exact j_vret hq dJ7_fill_53178_20
abbrev rmX9_tableStart : Room := { frames := 0, cells := 0, slots := 0, locals := 0 }
theorem dX9_tableStart_0 : decode cX9_tableStart 0 = .ok (.iload_n 0, 1) := by decide +kernel
theorem dX9_tableStart_1 : decode cX9_tableStart 1 = .ok (.iconst 3, 1) := by decide +kernel
theorem dX9_tableStart_2 : decode cX9_tableStart 2 = .ok (.imul, 1) := by decide +kernel
theorem dX9_tableStart_3 : decode cX9_tableStart 3 = .ok (.iload_n 1, 1) := by decide +kernel
theorem dX9_tableStart_4 : decode cX9_tableStart 4 = .ok (.iadd, 1) := by decide +kernel
theorem dX9_tableStart_5 : decode cX9_tableStart 5 = .ok (.bipush 9, 2) := by decide +kernel
theorem dX9_tableStart_7 : decode cX9_tableStart 7 = .ok (.imul, 1) := by decide +kernel
theorem dX9_tableStart_8 : decode cX9_tableStart 8 = .ok (.ireturn, 1) := by decide +kernel
def fX9_tableStart (a0 : Int) (a1 : Int) (s0 : Mem) : Option Res :=
 some (wr ((wr ((wr (a0 * 3)) + a1)) * 9), s0)
set_option maxRecDepth 100000 in
set_option maxHeartbeats 4000000 in
theorem mX9_tableStart (l : Launch) (D : va_G) (ad : Nat → Nat) (cA : Nat → ClassId) (a0 : Int) (a1 : Int) (s0 : Mem) : MCi l D ad cA yX9_tableStart cX9_tableStart 2 (some .int) rmX9_tableStart [.inl a0, .inl a1] s0 (fX9_tableStart a0 a1 s0) := by
  refine MCi_ofE (own := RX9) (ls := [some (.inl a0), some (.inl a1)]) 0 (by decide +kernel) rfl rfl (fun _ => Nat.le_of_ble_eq_true rfl) (fun K hq => ?_)
  unfold fX9_tableStart
  refine j_iload_n dX9_tableStart_0 rfl rfl ?_
  refine j_iconst dX9_tableStart_1 (inr_d rfl) ?_
  refine j_imul dX9_tableStart_2 ?_
  refine j_iload_n dX9_tableStart_3 rfl rfl ?_
  refine j_iadd dX9_tableStart_4 ?_
  refine j_bipush (v := 9) dX9_tableStart_5 (by decide +kernel) (inr_d rfl) ?_
  refine j_imul dX9_tableStart_7 ?_
  exact j_iret hq dX9_tableStart_8
abbrev rmJ9_floorDiv_7cf53 : Room := { frames := 0, cells := 0, slots := 0, locals := 0 }
theorem dJ9_floorDiv_7cf53_0 : decode cJ9_floorDiv_7cf53 0 = .ok (.iload_n 0, 1) := by decide +kernel
theorem dJ9_floorDiv_7cf53_1 : decode cJ9_floorDiv_7cf53 1 = .ok (.iload_n 1, 1) := by decide +kernel
theorem dJ9_floorDiv_7cf53_2 : decode cJ9_floorDiv_7cf53 2 = .ok (.idiv, 1) := by decide +kernel
theorem dJ9_floorDiv_7cf53_3 : decode cJ9_floorDiv_7cf53 3 = .ok (.istore_n 2, 1) := by decide +kernel
theorem dJ9_floorDiv_7cf53_4 : decode cJ9_floorDiv_7cf53 4 = .ok (.iload_n 0, 1) := by decide +kernel
theorem dJ9_floorDiv_7cf53_5 : decode cJ9_floorDiv_7cf53 5 = .ok (.iload_n 1, 1) := by decide +kernel
theorem dJ9_floorDiv_7cf53_6 : decode cJ9_floorDiv_7cf53 6 = .ok (.ixor, 1) := by decide +kernel
theorem dJ9_floorDiv_7cf53_7 : decode cJ9_floorDiv_7cf53 7 = .ok (.ifCond .ge 14, 3) := by decide +kernel
theorem dJ9_floorDiv_7cf53_10 : decode cJ9_floorDiv_7cf53 10 = .ok (.iload_n 2, 1) := by decide +kernel
theorem dJ9_floorDiv_7cf53_11 : decode cJ9_floorDiv_7cf53 11 = .ok (.iload_n 1, 1) := by decide +kernel
theorem dJ9_floorDiv_7cf53_12 : decode cJ9_floorDiv_7cf53 12 = .ok (.imul, 1) := by decide +kernel
theorem dJ9_floorDiv_7cf53_13 : decode cJ9_floorDiv_7cf53 13 = .ok (.iload_n 0, 1) := by decide +kernel
theorem dJ9_floorDiv_7cf53_14 : decode cJ9_floorDiv_7cf53 14 = .ok (.if_icmp .eq 7, 3) := by decide +kernel
theorem dJ9_floorDiv_7cf53_17 : decode cJ9_floorDiv_7cf53 17 = .ok (.iload_n 2, 1) := by decide +kernel
theorem dJ9_floorDiv_7cf53_18 : decode cJ9_floorDiv_7cf53 18 = .ok (.iconst 1, 1) := by decide +kernel
theorem dJ9_floorDiv_7cf53_19 : decode cJ9_floorDiv_7cf53 19 = .ok (.isub, 1) := by decide +kernel
theorem dJ9_floorDiv_7cf53_20 : decode cJ9_floorDiv_7cf53 20 = .ok (.ireturn, 1) := by decide +kernel
theorem dJ9_floorDiv_7cf53_21 : decode cJ9_floorDiv_7cf53 21 = .ok (.iload_n 2, 1) := by decide +kernel
theorem dJ9_floorDiv_7cf53_22 : decode cJ9_floorDiv_7cf53 22 = .ok (.ireturn, 1) := by decide +kernel
def fJ9_floorDiv_7cf53 (a0 : Int) (a1 : Int) (s0 : Mem) : Option Res :=
 dv a0 a1 (fun v1 =>
 (if 0 ≤ ixo a0 a1 then
 some (v1, s0)
 else
 (if wr (v1 * a1) = a0 then
 some (v1, s0)
 else
 some (wr (v1 - 1), s0))))
set_option maxRecDepth 100000 in
set_option maxHeartbeats 4000000 in
theorem mJ9_floorDiv_7cf53 (l : Launch) (D : va_G) (ad : Nat → Nat) (cA : Nat → ClassId) (a0 : Int) (a1 : Int) (s0 : Mem) : MCi l D ad cA yJ9_floorDiv_7cf53 cJ9_floorDiv_7cf53 3 (some .int) rmJ9_floorDiv_7cf53 [.inl a0, .inl a1] s0 (fJ9_floorDiv_7cf53 a0 a1 s0) := by
  refine MCi_ofF (own := RJ9) (ls := [some (.inl a0), some (.inl a1), none]) 1 (by decide +kernel) rfl rfl (fun _ => Nat.le_of_ble_eq_true rfl) (fun K hq => ?_)
  unfold fJ9_floorDiv_7cf53
  refine j_iload_n dJ9_floorDiv_7cf53_0 rfl rfl ?_
  refine j_iload_n dJ9_floorDiv_7cf53_1 rfl rfl ?_
  refine j_idiv dJ9_floorDiv_7cf53_2 (fun v1 => ?_)
  refine j_istore_nE (ls2 := [some (.inl a0), some (.inl a1), some (.inl v1)]) dJ9_floorDiv_7cf53_3 rfl (by decide) rfl rfl ?_
  refine j_iload_n dJ9_floorDiv_7cf53_4 rfl rfl ?_
  refine j_iload_n dJ9_floorDiv_7cf53_5 rfl rfl ?_
  refine j_ixor dJ9_floorDiv_7cf53_6 ?_
  refine j_if_ge (tgt := 21) dJ9_floorDiv_7cf53_7 rfl ?_ ?_
  · refine j_iload_n dJ9_floorDiv_7cf53_21 rfl rfl ?_
    exact j_iret hq dJ9_floorDiv_7cf53_22
  · refine j_iload_n dJ9_floorDiv_7cf53_10 rfl rfl ?_
    refine j_iload_n dJ9_floorDiv_7cf53_11 rfl rfl ?_
    refine j_imul dJ9_floorDiv_7cf53_12 ?_
    refine j_iload_n dJ9_floorDiv_7cf53_13 rfl rfl ?_
    refine j_icmp_eq (tgt := 21) dJ9_floorDiv_7cf53_14 rfl ?_ ?_
    · refine j_iload_n dJ9_floorDiv_7cf53_21 rfl rfl ?_
      exact j_iret hq dJ9_floorDiv_7cf53_22
    · refine j_iload_n dJ9_floorDiv_7cf53_17 rfl rfl ?_
      refine j_iconst dJ9_floorDiv_7cf53_18 (inr_d rfl) ?_
      refine j_isub dJ9_floorDiv_7cf53_19 ?_
      exact j_iret hq dJ9_floorDiv_7cf53_20
abbrev rmX9_activity : Room := { frames := 1, cells := 0, slots := 0, locals := 22 }
theorem dX9_activity_0 : decode cX9_activity 0 = .ok (.aload_n 0, 1) := by decide +kernel
theorem dX9_activity_1 : decode cX9_activity 1 = .ok (.getfield 15, 3) := by decide +kernel
theorem dX9_activity_4 : decode cX9_activity 4 = .ok (.iload_n 1, 1) := by decide +kernel
theorem dX9_activity_5 : decode cX9_activity 5 = .ok (.iaload, 1) := by decide +kernel
theorem dX9_activity_6 : decode cX9_activity 6 = .ok (.sipush 800, 3) := by decide +kernel
theorem dX9_activity_9 : decode cX9_activity 9 = .ok (.isub, 1) := by decide +kernel
theorem dX9_activity_10 : decode cX9_activity 10 = .ok (.bipush 40, 2) := by decide +kernel
theorem dX9_activity_12 : decode cX9_activity 12 = .ok (.invokestatic 38, 3) := by decide +kernel
theorem dX9_activity_15 : decode cX9_activity 15 = .ok (.ireturn, 1) := by decide +kernel
def fX9_activity (a1 : Int) (s0 : Mem) : Option Res :=
 rd (s0 3) a1 2 (fun v1 =>
 bnd (fJ9_floorDiv_7cf53 (wr (v1 - 800)) 40 s0) (fun r2 s3 =>
 some (r2, s3)))
set_option maxRecDepth 100000 in
set_option maxHeartbeats 4000000 in
theorem mX9_activity (l : Launch) (D : va_G) (ad : Nat → Nat) (cA : Nat → ClassId) (a1 : Int) (s0 : Mem) : MCi l D ad cA yX9_activity cX9_activity 2 (some .int) rmX9_activity [.inr (.inr 1), .inl a1] s0 (fX9_activity a1 s0) := by
  refine MCi_ofE (own := RX9) (ls := [some (.inr (.inr 1)), some (.inl a1)]) 0 (by decide +kernel) rfl rfl (fun _ => Nat.le_of_ble_eq_true rfl) (fun K hq => ?_)
  unfold fX9_activity
  refine j_aload_n dX9_activity_0 rfl rfl ?_
  refine j_getR fl_RX9_15 sh_1 rfl dX9_activity_1 ?_
  refine j_iload_n dX9_activity_4 rfl rfl ?_
  refine j_iald sh_3 dX9_activity_5 (fun v1 => ?_)
  refine j_sipush (v := 800) dX9_activity_6 (by decide +kernel) (inr_d rfl) ?_
  refine j_isub dX9_activity_9 ?_
  refine j_bipush (v := 40) dX9_activity_10 (by decide +kernel) (inr_d rfl) ?_
  refine j_callSi (mJ9_floorDiv_7cf53 (kl K) (kD K) (kad K) (kcA K) (wr (v1 - 800)) 40 s0) cw_RX9_38 ⟨rfl, rfl, by decide, by decide⟩ rfl rfl (Nat.le_of_ble_eq_true rfl) dX9_activity_12 (fun r2 s3 => ?_)
  exact j_iret hq dX9_activity_15
abbrev rmX9_exposureOf : Room := { frames := 2, cells := 0, slots := 0, locals := 43 }
theorem dX9_exposureOf_0 : decode cX9_exposureOf 0 = .ok (.iload_n 2, 1) := by decide +kernel
theorem dX9_exposureOf_1 : decode cX9_exposureOf 1 = .ok (.bipush 20, 2) := by decide +kernel
theorem dX9_exposureOf_3 : decode cX9_exposureOf 3 = .ok (.iadd, 1) := by decide +kernel
theorem dX9_exposureOf_4 : decode cX9_exposureOf 4 = .ok (.iload_n 3, 1) := by decide +kernel
theorem dX9_exposureOf_5 : decode cX9_exposureOf 5 = .ok (.isub, 1) := by decide +kernel
theorem dX9_exposureOf_6 : decode cX9_exposureOf 6 = .ok (.aload_n 0, 1) := by decide +kernel
theorem dX9_exposureOf_7 : decode cX9_exposureOf 7 = .ok (.getfield 24, 3) := by decide +kernel
theorem dX9_exposureOf_10 : decode cX9_exposureOf 10 = .ok (.iload_n 1, 1) := by decide +kernel
theorem dX9_exposureOf_11 : decode cX9_exposureOf 11 = .ok (.iaload, 1) := by decide +kernel
theorem dX9_exposureOf_12 : decode cX9_exposureOf 12 = .ok (.isub, 1) := by decide +kernel
theorem dX9_exposureOf_13 : decode cX9_exposureOf 13 = .ok (.aload_n 0, 1) := by decide +kernel
theorem dX9_exposureOf_14 : decode cX9_exposureOf 14 = .ok (.iload 4, 2) := by decide +kernel
theorem dX9_exposureOf_16 : decode cX9_exposureOf 16 = .ok (.invokevirtual 46, 3) := by decide +kernel
theorem dX9_exposureOf_19 : decode cX9_exposureOf 19 = .ok (.iadd, 1) := by decide +kernel
theorem dX9_exposureOf_20 : decode cX9_exposureOf 20 = .ok (.ireturn, 1) := by decide +kernel
def fX9_exposureOf (a1 : Int) (a2 : Int) (a3 : Int) (a4 : Int) (s0 : Mem) : Option Res :=
 rd (s0 6) a1 3 (fun v1 =>
 bnd (fX9_activity a4 s0) (fun r2 s3 =>
 some (wr ((wr ((wr ((wr (a2 + 20)) - a3)) - v1)) + r2), s3)))
set_option maxRecDepth 100000 in
set_option maxHeartbeats 4000000 in
theorem mX9_exposureOf (l : Launch) (D : va_G) (ad : Nat → Nat) (cA : Nat → ClassId) (a1 : Int) (a2 : Int) (a3 : Int) (a4 : Int) (s0 : Mem) : MCi l D ad cA yX9_exposureOf cX9_exposureOf 5 (some .int) rmX9_exposureOf [.inr (.inr 1), .inl a1, .inl a2, .inl a3, .inl a4] s0 (fX9_exposureOf a1 a2 a3 a4 s0) := by
  refine MCi_ofE (own := RX9) (ls := [some (.inr (.inr 1)), some (.inl a1), some (.inl a2), some (.inl a3), some (.inl a4)]) 0 (by decide +kernel) rfl rfl (fun _ => Nat.le_of_ble_eq_true rfl) (fun K hq => ?_)
  unfold fX9_exposureOf
  refine j_iload_n dX9_exposureOf_0 rfl rfl ?_
  refine j_bipush (v := 20) dX9_exposureOf_1 (by decide +kernel) (inr_d rfl) ?_
  refine j_iadd dX9_exposureOf_3 ?_
  refine j_iload_n dX9_exposureOf_4 rfl rfl ?_
  refine j_isub dX9_exposureOf_5 ?_
  refine j_aload_n dX9_exposureOf_6 rfl rfl ?_
  refine j_getR fl_RX9_24 sh_1 rfl dX9_exposureOf_7 ?_
  refine j_iload_n dX9_exposureOf_10 rfl rfl ?_
  refine j_iald sh_6 dX9_exposureOf_11 (fun v1 => ?_)
  refine j_isub dX9_exposureOf_12 ?_
  refine j_aload_n dX9_exposureOf_13 rfl rfl ?_
  refine j_iload dX9_exposureOf_14 rfl ?_
  refine j_callVi (mX9_activity (kl K) (kD K) (kad K) (kcA K) a4 s0) cw_RX9_46 sh_1 rfl ⟨rfl, rfl, by decide, by decide⟩ rfl rfl (Nat.le_of_ble_eq_true rfl) dX9_exposureOf_16 (fun r2 s3 => ?_)
  refine j_iadd dX9_exposureOf_19 ?_
  exact j_iret hq dX9_exposureOf_20
abbrev rmX9_toneAt : Room := { frames := 0, cells := 0, slots := 0, locals := 0 }
theorem dX9_toneAt_0 : decode cX9_toneAt 0 = .ok (.iload_n 2, 1) := by decide +kernel
theorem dX9_toneAt_1 : decode cX9_toneAt 1 = .ok (.ifCond .gt 10, 3) := by decide +kernel
theorem dX9_toneAt_4 : decode cX9_toneAt 4 = .ok (.aload_n 0, 1) := by decide +kernel
theorem dX9_toneAt_5 : decode cX9_toneAt 5 = .ok (.getfield 11, 3) := by decide +kernel
theorem dX9_toneAt_8 : decode cX9_toneAt 8 = .ok (.iload_n 1, 1) := by decide +kernel
theorem dX9_toneAt_9 : decode cX9_toneAt 9 = .ok (.iaload, 1) := by decide +kernel
theorem dX9_toneAt_10 : decode cX9_toneAt 10 = .ok (.ireturn, 1) := by decide +kernel
theorem dX9_toneAt_11 : decode cX9_toneAt 11 = .ok (.iload_n 2, 1) := by decide +kernel
theorem dX9_toneAt_12 : decode cX9_toneAt 12 = .ok (.bipush 64, 2) := by decide +kernel
theorem dX9_toneAt_14 : decode cX9_toneAt 14 = .ok (.if_icmp .lt 13, 3) := by decide +kernel
theorem dX9_toneAt_17 : decode cX9_toneAt 17 = .ok (.aload_n 0, 1) := by decide +kernel
theorem dX9_toneAt_18 : decode cX9_toneAt 18 = .ok (.getfield 11, 3) := by decide +kernel
theorem dX9_toneAt_21 : decode cX9_toneAt 21 = .ok (.iload_n 1, 1) := by decide +kernel
theorem dX9_toneAt_22 : decode cX9_toneAt 22 = .ok (.bipush 8, 2) := by decide +kernel
theorem dX9_toneAt_24 : decode cX9_toneAt 24 = .ok (.iadd, 1) := by decide +kernel
theorem dX9_toneAt_25 : decode cX9_toneAt 25 = .ok (.iaload, 1) := by decide +kernel
theorem dX9_toneAt_26 : decode cX9_toneAt 26 = .ok (.ireturn, 1) := by decide +kernel
theorem dX9_toneAt_27 : decode cX9_toneAt 27 = .ok (.iload_n 1, 1) := by decide +kernel
theorem dX9_toneAt_28 : decode cX9_toneAt 28 = .ok (.iload_n 2, 1) := by decide +kernel
theorem dX9_toneAt_29 : decode cX9_toneAt 29 = .ok (.bipush 8, 2) := by decide +kernel
theorem dX9_toneAt_31 : decode cX9_toneAt 31 = .ok (.idiv, 1) := by decide +kernel
theorem dX9_toneAt_32 : decode cX9_toneAt 32 = .ok (.iadd, 1) := by decide +kernel
theorem dX9_toneAt_33 : decode cX9_toneAt 33 = .ok (.istore_n 3, 1) := by decide +kernel
theorem dX9_toneAt_34 : decode cX9_toneAt 34 = .ok (.aload_n 0, 1) := by decide +kernel
theorem dX9_toneAt_35 : decode cX9_toneAt 35 = .ok (.getfield 11, 3) := by decide +kernel
theorem dX9_toneAt_38 : decode cX9_toneAt 38 = .ok (.iload_n 3, 1) := by decide +kernel
theorem dX9_toneAt_39 : decode cX9_toneAt 39 = .ok (.iaload, 1) := by decide +kernel
theorem dX9_toneAt_40 : decode cX9_toneAt 40 = .ok (.aload_n 0, 1) := by decide +kernel
theorem dX9_toneAt_41 : decode cX9_toneAt 41 = .ok (.getfield 11, 3) := by decide +kernel
theorem dX9_toneAt_44 : decode cX9_toneAt 44 = .ok (.iload_n 3, 1) := by decide +kernel
theorem dX9_toneAt_45 : decode cX9_toneAt 45 = .ok (.iconst 1, 1) := by decide +kernel
theorem dX9_toneAt_46 : decode cX9_toneAt 46 = .ok (.iadd, 1) := by decide +kernel
theorem dX9_toneAt_47 : decode cX9_toneAt 47 = .ok (.iaload, 1) := by decide +kernel
theorem dX9_toneAt_48 : decode cX9_toneAt 48 = .ok (.aload_n 0, 1) := by decide +kernel
theorem dX9_toneAt_49 : decode cX9_toneAt 49 = .ok (.getfield 11, 3) := by decide +kernel
theorem dX9_toneAt_52 : decode cX9_toneAt 52 = .ok (.iload_n 3, 1) := by decide +kernel
theorem dX9_toneAt_53 : decode cX9_toneAt 53 = .ok (.iaload, 1) := by decide +kernel
theorem dX9_toneAt_54 : decode cX9_toneAt 54 = .ok (.isub, 1) := by decide +kernel
theorem dX9_toneAt_55 : decode cX9_toneAt 55 = .ok (.iload_n 2, 1) := by decide +kernel
theorem dX9_toneAt_56 : decode cX9_toneAt 56 = .ok (.bipush 8, 2) := by decide +kernel
theorem dX9_toneAt_58 : decode cX9_toneAt 58 = .ok (.irem, 1) := by decide +kernel
theorem dX9_toneAt_59 : decode cX9_toneAt 59 = .ok (.imul, 1) := by decide +kernel
theorem dX9_toneAt_60 : decode cX9_toneAt 60 = .ok (.bipush 8, 2) := by decide +kernel
theorem dX9_toneAt_62 : decode cX9_toneAt 62 = .ok (.idiv, 1) := by decide +kernel
theorem dX9_toneAt_63 : decode cX9_toneAt 63 = .ok (.iadd, 1) := by decide +kernel
theorem dX9_toneAt_64 : decode cX9_toneAt 64 = .ok (.ireturn, 1) := by decide +kernel
def fX9_toneAt (a1 : Int) (a2 : Int) (s0 : Mem) : Option Res :=
 (if 0 < a2 then
 (if a2 < 64 then
 lt (wr (a1 + (Int.tdiv a2 8))) (fun v1 =>
 rd (s0 2) v1 81 (fun v2 =>
 rd (s0 2) (wr (v1 + 1)) 81 (fun v3 =>
 rd (s0 2) v1 81 (fun v4 =>
 some (wr (v2 + (Int.tdiv (wr ((wr (v3 - v4)) * (Int.tmod a2 8))) 8)), s0)))))
 else
 rd (s0 2) (wr (a1 + 8)) 81 (fun v5 =>
 some (v5, s0)))
 else
 rd (s0 2) a1 81 (fun v6 =>
 some (v6, s0)))
set_option maxRecDepth 100000 in
set_option maxHeartbeats 4000000 in
theorem mX9_toneAt (l : Launch) (D : va_G) (ad : Nat → Nat) (cA : Nat → ClassId) (a1 : Int) (a2 : Int) (s0 : Mem) : MCi l D ad cA yX9_toneAt cX9_toneAt 4 (some .int) rmX9_toneAt [.inr (.inr 1), .inl a1, .inl a2] s0 (fX9_toneAt a1 a2 s0) := by
  refine MCi_ofE (own := RX9) (ls := [some (.inr (.inr 1)), some (.inl a1), some (.inl a2), none]) 1 (by decide +kernel) rfl rfl (fun _ => Nat.le_of_ble_eq_true rfl) (fun K hq => ?_)
  unfold fX9_toneAt
  refine j_iload_n dX9_toneAt_0 rfl rfl ?_
  refine j_if_gt (tgt := 11) dX9_toneAt_1 rfl ?_ ?_
  · refine j_iload_n dX9_toneAt_11 rfl rfl ?_
    refine j_bipush (v := 64) dX9_toneAt_12 (by decide +kernel) (inr_d rfl) ?_
    refine j_icmp_lt (tgt := 27) dX9_toneAt_14 rfl ?_ ?_
    · refine j_iload_n dX9_toneAt_27 rfl rfl ?_
      refine j_iload_n dX9_toneAt_28 rfl rfl ?_
      refine j_bipush (v := 8) dX9_toneAt_29 (by decide +kernel) (inr_d rfl) ?_
      refine j_idiv_p dX9_toneAt_31 (by decide) ?_
      refine j_iadd dX9_toneAt_32 ?_
      refine j_ltv (fun v1 => ?_)
      refine j_istore_nE (ls2 := [some (.inr (.inr 1)), some (.inl a1), some (.inl a2), some (.inl v1)]) dX9_toneAt_33 rfl (by decide) rfl rfl ?_
      refine j_aload_n dX9_toneAt_34 rfl rfl ?_
      refine j_getR fl_RX9_11 sh_1 rfl dX9_toneAt_35 ?_
      refine j_iload_n dX9_toneAt_38 rfl rfl ?_
      refine j_iald sh_2 dX9_toneAt_39 (fun v2 => ?_)
      refine j_aload_n dX9_toneAt_40 rfl rfl ?_
      refine j_getR fl_RX9_11 sh_1 rfl dX9_toneAt_41 ?_
      refine j_iload_n dX9_toneAt_44 rfl rfl ?_
      refine j_iconst dX9_toneAt_45 (inr_d rfl) ?_
      refine j_iadd dX9_toneAt_46 ?_
      refine j_iald sh_2 dX9_toneAt_47 (fun v3 => ?_)
      refine j_aload_n dX9_toneAt_48 rfl rfl ?_
      refine j_getR fl_RX9_11 sh_1 rfl dX9_toneAt_49 ?_
      refine j_iload_n dX9_toneAt_52 rfl rfl ?_
      refine j_iald sh_2 dX9_toneAt_53 (fun v4 => ?_)
      refine j_isub dX9_toneAt_54 ?_
      refine j_iload_n dX9_toneAt_55 rfl rfl ?_
      refine j_bipush (v := 8) dX9_toneAt_56 (by decide +kernel) (inr_d rfl) ?_
      refine j_irem_p dX9_toneAt_58 (by decide) ?_
      refine j_imul dX9_toneAt_59 ?_
      refine j_bipush (v := 8) dX9_toneAt_60 (by decide +kernel) (inr_d rfl) ?_
      refine j_idiv_p dX9_toneAt_62 (by decide) ?_
      refine j_iadd dX9_toneAt_63 ?_
      exact j_iret hq dX9_toneAt_64
    · refine j_aload_n dX9_toneAt_17 rfl rfl ?_
      refine j_getR fl_RX9_11 sh_1 rfl dX9_toneAt_18 ?_
      refine j_iload_n dX9_toneAt_21 rfl rfl ?_
      refine j_bipush (v := 8) dX9_toneAt_22 (by decide +kernel) (inr_d rfl) ?_
      refine j_iadd dX9_toneAt_24 ?_
      refine j_iald sh_2 dX9_toneAt_25 (fun v5 => ?_)
      exact j_iret hq dX9_toneAt_26
  · refine j_aload_n dX9_toneAt_4 rfl rfl ?_
    refine j_getR fl_RX9_11 sh_1 rfl dX9_toneAt_5 ?_
    refine j_iload_n dX9_toneAt_8 rfl rfl ?_
    refine j_iald sh_2 dX9_toneAt_9 (fun v6 => ?_)
    exact j_iret hq dX9_toneAt_10
abbrev rmX9_printed : Room := { frames := 3, cells := 0, slots := 0, locals := 67 }
theorem dX9_printed_0 : decode cX9_printed 0 = .ok (.aload_n 0, 1) := by decide +kernel
theorem dX9_printed_1 : decode cX9_printed 1 = .ok (.iload_n 1, 1) := by decide +kernel
theorem dX9_printed_2 : decode cX9_printed 2 = .ok (.iload_n 2, 1) := by decide +kernel
theorem dX9_printed_3 : decode cX9_printed 3 = .ok (.invokestatic 30, 3) := by decide +kernel
theorem dX9_printed_6 : decode cX9_printed 6 = .ok (.aload_n 0, 1) := by decide +kernel
theorem dX9_printed_7 : decode cX9_printed 7 = .ok (.iload_n 2, 1) := by decide +kernel
theorem dX9_printed_8 : decode cX9_printed 8 = .ok (.iload_n 3, 1) := by decide +kernel
theorem dX9_printed_9 : decode cX9_printed 9 = .ok (.iload 4, 2) := by decide +kernel
theorem dX9_printed_11 : decode cX9_printed 11 = .ok (.iload 5, 2) := by decide +kernel
theorem dX9_printed_13 : decode cX9_printed 13 = .ok (.invokevirtual 50, 3) := by decide +kernel
theorem dX9_printed_16 : decode cX9_printed 16 = .ok (.invokevirtual 54, 3) := by decide +kernel
theorem dX9_printed_19 : decode cX9_printed 19 = .ok (.ireturn, 1) := by decide +kernel
def fX9_printed (a1 : Int) (a2 : Int) (a3 : Int) (a4 : Int) (a5 : Int) (s0 : Mem) : Option Res :=
 bnd (fX9_tableStart a1 a2 s0) (fun r1 s2 =>
 bnd (fX9_exposureOf a2 a3 a4 a5 s2) (fun r3 s4 =>
 bnd (fX9_toneAt r1 r3 s4) (fun r5 s6 =>
 some (r5, s6))))
set_option maxRecDepth 100000 in
set_option maxHeartbeats 4000000 in
theorem mX9_printed (l : Launch) (D : va_G) (ad : Nat → Nat) (cA : Nat → ClassId) (a1 : Int) (a2 : Int) (a3 : Int) (a4 : Int) (a5 : Int) (s0 : Mem) : MCi l D ad cA yX9_printed cX9_printed 6 (some .int) rmX9_printed [.inr (.inr 1), .inl a1, .inl a2, .inl a3, .inl a4, .inl a5] s0 (fX9_printed a1 a2 a3 a4 a5 s0) := by
  refine MCi_ofE (own := RX9) (ls := [some (.inr (.inr 1)), some (.inl a1), some (.inl a2), some (.inl a3), some (.inl a4), some (.inl a5)]) 0 (by decide +kernel) rfl rfl (fun _ => Nat.le_of_ble_eq_true rfl) (fun K hq => ?_)
  unfold fX9_printed
  refine j_aload_n dX9_printed_0 rfl rfl ?_
  refine j_iload_n dX9_printed_1 rfl rfl ?_
  refine j_iload_n dX9_printed_2 rfl rfl ?_
  refine j_callSi (mX9_tableStart (kl K) (kD K) (kad K) (kcA K) a1 a2 s0) cw_RX9_30 ⟨rfl, rfl, by decide, by decide⟩ rfl rfl (Nat.le_of_ble_eq_true rfl) dX9_printed_3 (fun r1 s2 => ?_)
  refine j_aload_n dX9_printed_6 rfl rfl ?_
  refine j_iload_n dX9_printed_7 rfl rfl ?_
  refine j_iload_n dX9_printed_8 rfl rfl ?_
  refine j_iload dX9_printed_9 rfl ?_
  refine j_iload dX9_printed_11 rfl ?_
  refine j_callVi (mX9_exposureOf (kl K) (kD K) (kad K) (kcA K) a2 a3 a4 a5 s2) cw_RX9_50 sh_1 rfl ⟨rfl, rfl, by decide, by decide⟩ rfl rfl (Nat.le_of_ble_eq_true rfl) dX9_printed_13 (fun r3 s4 => ?_)
  refine j_callVi (mX9_toneAt (kl K) (kD K) (kad K) (kcA K) r1 r3 s4) cw_RX9_54 sh_1 rfl ⟨rfl, rfl, by decide, by decide⟩ rfl rfl (Nat.le_of_ble_eq_true rfl) dX9_printed_16 (fun r5 s6 => ?_)
  exact j_iret hq dX9_printed_19
abbrev rmX1_reachFrom : Room := { frames := 1, cells := 0, slots := 0, locals := 21 }
theorem dX1_reachFrom_0 : decode cX1_reachFrom 0 = .ok (.iconst 0, 1) := by decide +kernel
theorem dX1_reachFrom_1 : decode cX1_reachFrom 1 = .ok (.istore_n 2, 1) := by decide +kernel
theorem dX1_reachFrom_2 : decode cX1_reachFrom 2 = .ok (.iload_n 2, 1) := by decide +kernel
theorem dX1_reachFrom_3 : decode cX1_reachFrom 3 = .ok (.bipush 50, 2) := by decide +kernel
theorem dX1_reachFrom_5 : decode cX1_reachFrom 5 = .ok (.if_icmp .ge 50, 3) := by decide +kernel
theorem dX1_reachFrom_8 : decode cX1_reachFrom 8 = .ok (.iload_n 2, 1) := by decide +kernel
theorem dX1_reachFrom_9 : decode cX1_reachFrom 9 = .ok (.ifCond .le 16, 3) := by decide +kernel
theorem dX1_reachFrom_12 : decode cX1_reachFrom 12 = .ok (.aload_n 0, 1) := by decide +kernel
theorem dX1_reachFrom_13 : decode cX1_reachFrom 13 = .ok (.getfield 15, 3) := by decide +kernel
theorem dX1_reachFrom_16 : decode cX1_reachFrom 16 = .ok (.iload_n 2, 1) := by decide +kernel
theorem dX1_reachFrom_17 : decode cX1_reachFrom 17 = .ok (.iconst 1, 1) := by decide +kernel
theorem dX1_reachFrom_18 : decode cX1_reachFrom 18 = .ok (.isub, 1) := by decide +kernel
theorem dX1_reachFrom_19 : decode cX1_reachFrom 19 = .ok (.iaload, 1) := by decide +kernel
theorem dX1_reachFrom_20 : decode cX1_reachFrom 20 = .ok (.iconst 1, 1) := by decide +kernel
theorem dX1_reachFrom_21 : decode cX1_reachFrom 21 = .ok (.iadd, 1) := by decide +kernel
theorem dX1_reachFrom_22 : decode cX1_reachFrom 22 = .ok (.goto 5, 3) := by decide +kernel
theorem dX1_reachFrom_25 : decode cX1_reachFrom 25 = .ok (.ldc 57, 2) := by decide +kernel
theorem dX1_reachFrom_27 : decode cX1_reachFrom 27 = .ok (.istore_n 3, 1) := by decide +kernel
theorem dX1_reachFrom_28 : decode cX1_reachFrom 28 = .ok (.aload_n 0, 1) := by decide +kernel
theorem dX1_reachFrom_29 : decode cX1_reachFrom 29 = .ok (.getfield 15, 3) := by decide +kernel
theorem dX1_reachFrom_32 : decode cX1_reachFrom 32 = .ok (.iload_n 2, 1) := by decide +kernel
theorem dX1_reachFrom_33 : decode cX1_reachFrom 33 = .ok (.aload_n 0, 1) := by decide +kernel
theorem dX1_reachFrom_34 : decode cX1_reachFrom 34 = .ok (.getfield 9, 3) := by decide +kernel
theorem dX1_reachFrom_37 : decode cX1_reachFrom 37 = .ok (.iload_n 1, 1) := by decide +kernel
theorem dX1_reachFrom_38 : decode cX1_reachFrom 38 = .ok (.bipush 50, 2) := by decide +kernel
theorem dX1_reachFrom_40 : decode cX1_reachFrom 40 = .ok (.imul, 1) := by decide +kernel
theorem dX1_reachFrom_41 : decode cX1_reachFrom 41 = .ok (.iload_n 2, 1) := by decide +kernel
theorem dX1_reachFrom_42 : decode cX1_reachFrom 42 = .ok (.iadd, 1) := by decide +kernel
theorem dX1_reachFrom_43 : decode cX1_reachFrom 43 = .ok (.iaload, 1) := by decide +kernel
theorem dX1_reachFrom_44 : decode cX1_reachFrom 44 = .ok (.iload_n 3, 1) := by decide +kernel
theorem dX1_reachFrom_45 : decode cX1_reachFrom 45 = .ok (.invokestatic 66, 3) := by decide +kernel
theorem dX1_reachFrom_48 : decode cX1_reachFrom 48 = .ok (.iastore, 1) := by decide +kernel
theorem dX1_reachFrom_49 : decode cX1_reachFrom 49 = .ok (.iinc 2 1, 3) := by decide +kernel
theorem dX1_reachFrom_52 : decode cX1_reachFrom 52 = .ok (.goto (-50), 3) := by decide +kernel
theorem dX1_reachFrom_55 : decode cX1_reachFrom 55 = .ok (.bipush 48, 2) := by decide +kernel
theorem dX1_reachFrom_57 : decode cX1_reachFrom 57 = .ok (.istore_n 2, 1) := by decide +kernel
theorem dX1_reachFrom_58 : decode cX1_reachFrom 58 = .ok (.iload_n 2, 1) := by decide +kernel
theorem dX1_reachFrom_59 : decode cX1_reachFrom 59 = .ok (.ifCond .lt 34, 3) := by decide +kernel
theorem dX1_reachFrom_62 : decode cX1_reachFrom 62 = .ok (.aload_n 0, 1) := by decide +kernel
theorem dX1_reachFrom_63 : decode cX1_reachFrom 63 = .ok (.getfield 15, 3) := by decide +kernel
theorem dX1_reachFrom_66 : decode cX1_reachFrom 66 = .ok (.iload_n 2, 1) := by decide +kernel
theorem dX1_reachFrom_67 : decode cX1_reachFrom 67 = .ok (.aload_n 0, 1) := by decide +kernel
theorem dX1_reachFrom_68 : decode cX1_reachFrom 68 = .ok (.getfield 15, 3) := by decide +kernel
theorem dX1_reachFrom_71 : decode cX1_reachFrom 71 = .ok (.iload_n 2, 1) := by decide +kernel
theorem dX1_reachFrom_72 : decode cX1_reachFrom 72 = .ok (.iaload, 1) := by decide +kernel
theorem dX1_reachFrom_73 : decode cX1_reachFrom 73 = .ok (.aload_n 0, 1) := by decide +kernel
theorem dX1_reachFrom_74 : decode cX1_reachFrom 74 = .ok (.getfield 15, 3) := by decide +kernel
theorem dX1_reachFrom_77 : decode cX1_reachFrom 77 = .ok (.iload_n 2, 1) := by decide +kernel
theorem dX1_reachFrom_78 : decode cX1_reachFrom 78 = .ok (.iconst 1, 1) := by decide +kernel
theorem dX1_reachFrom_79 : decode cX1_reachFrom 79 = .ok (.iadd, 1) := by decide +kernel
theorem dX1_reachFrom_80 : decode cX1_reachFrom 80 = .ok (.iaload, 1) := by decide +kernel
theorem dX1_reachFrom_81 : decode cX1_reachFrom 81 = .ok (.iconst 1, 1) := by decide +kernel
theorem dX1_reachFrom_82 : decode cX1_reachFrom 82 = .ok (.iadd, 1) := by decide +kernel
theorem dX1_reachFrom_83 : decode cX1_reachFrom 83 = .ok (.invokestatic 66, 3) := by decide +kernel
theorem dX1_reachFrom_86 : decode cX1_reachFrom 86 = .ok (.iastore, 1) := by decide +kernel
theorem dX1_reachFrom_87 : decode cX1_reachFrom 87 = .ok (.iinc 2 (-1), 3) := by decide +kernel
theorem dX1_reachFrom_90 : decode cX1_reachFrom 90 = .ok (.goto (-32), 3) := by decide +kernel
theorem dX1_reachFrom_93 : decode cX1_reachFrom 93 = .ok (.return_, 1) := by decide +kernel
def LX1_reachFrom_2 (c1 : Int) (k55 : Mem → Option Res) : Nat → Int → Mem → Option Res
  | 0 => fun _ _ => none
  | n + 1 => fun x2 s => (if 50 ≤ x2 then
 k55 s
 else
 jn (fun (u1 : Int) (s2 : Mem) =>
 rd (s2 80) (wr ((wr (c1 * 50)) + x2)) 800 (fun v3 =>
 ST s2 81 x2 50 (mn v3 u1) (fun s4 =>
 LX1_reachFrom_2 c1 k55 n (wr (x2 + 1)) s4))) (fun k27 =>
 (if x2 ≤ 0 then
 k27 1000000 s
 else
 rd (s 81) (wr (x2 - 1)) 50 (fun v5 =>
 k27 (wr (v5 + 1)) s))))
def LX1_reachFrom_58 (k93 : Mem → Option Res) : Nat → Int → Mem → Option Res
  | 0 => fun _ _ => none
  | n + 1 => fun x2 s => (if x2 < 0 then
 k93 s
 else
 rd (s 81) x2 50 (fun v7 =>
 rd (s 81) (wr (x2 + 1)) 50 (fun v8 =>
 ST s 81 x2 50 (mn v7 (wr (v8 + 1))) (fun s9 =>
 LX1_reachFrom_58 k93 n (wr (x2 + (-1))) s9))))
def fX1_reachFrom (a1 : Int) (s0 : Mem) : Option Res :=
 LX1_reachFrom_2 a1 (fun s6 =>
 LX1_reachFrom_58 (fun s10 =>
 some (0, s10)) FU 48 s6) FU 0 s0
set_option maxRecDepth 100000 in
set_option maxHeartbeats 4000000 in
theorem jLX1_reachFrom_2 {K : KT} (hq : KV K none) (c1 : Int) (k55 : Mem → Option Res) (hk55 : ∀ (s : Mem), J K rmX1_reachFrom cX1_reachFrom RX1 4 55 [some (.inr (.inr 79)), none, none, none] [] s (k55 s)) : ∀ (n : Nat) (x2 : Int) (s : Mem), J K rmX1_reachFrom cX1_reachFrom RX1 4 2 [some (.inr (.inr 79)), some (.inl c1), some (.inl x2), none] [] s (LX1_reachFrom_2 c1 k55 n x2 s) := by
  intro n
  induction n with
  | zero => intros; exact J_none
  | succ n ih =>
    intro x2 s
    show J K _ _ _ _ _ _ _ _ (LX1_reachFrom_2 c1 k55 (n + 1) x2 s)
    simp only [LX1_reachFrom_2]
    refine j_iload_n dX1_reachFrom_2 rfl rfl ?_
    refine j_bipush (v := 50) dX1_reachFrom_3 (by decide +kernel) (inr_d rfl) ?_
    refine j_icmp_ge (tgt := 55) dX1_reachFrom_5 rfl ?_ ?_
    · exact j_msk [true, false, false, false] (hk55 _)
    · refine j_iload_n dX1_reachFrom_8 rfl rfl ?_
      refine j_jn (fun k27 => ∀ (u1 : Int) (s2 : Mem), J K rmX1_reachFrom cX1_reachFrom RX1 4 27 [some (.inr (.inr 79)), some (.inl c1), some (.inl x2), none] [.inl u1] s2 (k27 u1 s2)) (fun u1 s2 => ?_) (fun k27 hk27 => ?_)
      · refine j_istore_nE (ls2 := [some (.inr (.inr 79)), some (.inl c1), some (.inl x2), some (.inl u1)]) dX1_reachFrom_27 rfl (by decide) rfl rfl ?_
        refine j_aload_n dX1_reachFrom_28 rfl rfl ?_
        refine j_getR fl_RX1_15 sh_79 rfl dX1_reachFrom_29 ?_
        refine j_iload_n dX1_reachFrom_32 rfl rfl ?_
        refine j_aload_n dX1_reachFrom_33 rfl rfl ?_
        refine j_getR fl_RX1_9 sh_79 rfl dX1_reachFrom_34 ?_
        refine j_iload_n dX1_reachFrom_37 rfl rfl ?_
        refine j_bipush (v := 50) dX1_reachFrom_38 (by decide +kernel) (inr_d rfl) ?_
        refine j_imul dX1_reachFrom_40 ?_
        refine j_iload_n dX1_reachFrom_41 rfl rfl ?_
        refine j_iadd dX1_reachFrom_42 ?_
        refine j_iald sh_80 dX1_reachFrom_43 (fun v3 => ?_)
        refine j_iload_n dX1_reachFrom_44 rfl rfl ?_
        refine j_min mw_RX1_66 ⟨by decide, Nat.le_of_ble_eq_true rfl⟩ dX1_reachFrom_45 ?_
        refine j_iast sh_81 dX1_reachFrom_48 (fun s4 => ?_)
        refine j_iincE (ls2 := [some (.inr (.inr 79)), some (.inl c1), some (.inl (wr (x2 + 1))), some (.inl u1)]) dX1_reachFrom_49 rfl (by decide) rfl rfl ?_
        refine j_goto (tgt := 2) dX1_reachFrom_52 rfl ?_
        exact j_msk [true, true, true, false] (ih _ _)
      refine j_if_le (tgt := 25) dX1_reachFrom_9 rfl ?_ ?_
      · refine j_ldc (v := 1000000) dX1_reachFrom_25 cst_RX1_57 (inr_d rfl) ?_
        exact j_msk [true, true, true, false] (hk27 _ _)
      · refine j_aload_n dX1_reachFrom_12 rfl rfl ?_
        refine j_getR fl_RX1_15 sh_79 rfl dX1_reachFrom_13 ?_
        refine j_iload_n dX1_reachFrom_16 rfl rfl ?_
        refine j_iconst dX1_reachFrom_17 (inr_d rfl) ?_
        refine j_isub dX1_reachFrom_18 ?_
        refine j_iald sh_81 dX1_reachFrom_19 (fun v5 => ?_)
        refine j_iconst dX1_reachFrom_20 (inr_d rfl) ?_
        refine j_iadd dX1_reachFrom_21 ?_
        refine j_goto (tgt := 27) dX1_reachFrom_22 rfl ?_
        exact j_msk [true, true, true, false] (hk27 _ _)
set_option maxRecDepth 100000 in
set_option maxHeartbeats 4000000 in
theorem jLX1_reachFrom_58 {K : KT} (hq : KV K none) (k93 : Mem → Option Res) (hk93 : ∀ (s : Mem), J K rmX1_reachFrom cX1_reachFrom RX1 4 93 [none, none, none, none] [] s (k93 s)) : ∀ (n : Nat) (x2 : Int) (s : Mem), J K rmX1_reachFrom cX1_reachFrom RX1 4 58 [some (.inr (.inr 79)), none, some (.inl x2), none] [] s (LX1_reachFrom_58 k93 n x2 s) := by
  intro n
  induction n with
  | zero => intros; exact J_none
  | succ n ih =>
    intro x2 s
    show J K _ _ _ _ _ _ _ _ (LX1_reachFrom_58 k93 (n + 1) x2 s)
    simp only [LX1_reachFrom_58]
    refine j_iload_n dX1_reachFrom_58 rfl rfl ?_
    refine j_if_lt (tgt := 93) dX1_reachFrom_59 rfl ?_ ?_
    · exact j_msk [false, false, false, false] (hk93 _)
    · refine j_aload_n dX1_reachFrom_62 rfl rfl ?_
      refine j_getR fl_RX1_15 sh_79 rfl dX1_reachFrom_63 ?_
      refine j_iload_n dX1_reachFrom_66 rfl rfl ?_
      refine j_aload_n dX1_reachFrom_67 rfl rfl ?_
      refine j_getR fl_RX1_15 sh_79 rfl dX1_reachFrom_68 ?_
      refine j_iload_n dX1_reachFrom_71 rfl rfl ?_
      refine j_iald sh_81 dX1_reachFrom_72 (fun v7 => ?_)
      refine j_aload_n dX1_reachFrom_73 rfl rfl ?_
      refine j_getR fl_RX1_15 sh_79 rfl dX1_reachFrom_74 ?_
      refine j_iload_n dX1_reachFrom_77 rfl rfl ?_
      refine j_iconst dX1_reachFrom_78 (inr_d rfl) ?_
      refine j_iadd dX1_reachFrom_79 ?_
      refine j_iald sh_81 dX1_reachFrom_80 (fun v8 => ?_)
      refine j_iconst dX1_reachFrom_81 (inr_d rfl) ?_
      refine j_iadd dX1_reachFrom_82 ?_
      refine j_min mw_RX1_66 ⟨by decide, Nat.le_of_ble_eq_true rfl⟩ dX1_reachFrom_83 ?_
      refine j_iast sh_81 dX1_reachFrom_86 (fun s9 => ?_)
      refine j_iincE (ls2 := [some (.inr (.inr 79)), none, some (.inl (wr (x2 + (-1)))), none]) dX1_reachFrom_87 rfl (by decide) rfl rfl ?_
      refine j_goto (tgt := 58) dX1_reachFrom_90 rfl ?_
      exact j_msk [true, false, true, false] (ih _ _)
set_option maxRecDepth 100000 in
set_option maxHeartbeats 4000000 in
theorem mX1_reachFrom (l : Launch) (D : va_G) (ad : Nat → Nat) (cA : Nat → ClassId) (a1 : Int) (s0 : Mem) : MCv l D ad cA yX1_reachFrom cX1_reachFrom 4 none rmX1_reachFrom [.inr (.inr 79), .inl a1] s0 (fX1_reachFrom a1 s0) := by
  refine MCv_ofE (own := RX1) (ls := [some (.inr (.inr 79)), some (.inl a1), none, none]) 2 (by decide +kernel) rfl rfl (fun _ => Nat.le_of_ble_eq_true rfl) (fun K hq => ?_)
  unfold fX1_reachFrom
  refine j_iconst dX1_reachFrom_0 (inr_d rfl) ?_
  refine j_istore_nE (ls2 := [some (.inr (.inr 79)), some (.inl a1), some (.inl 0), none]) dX1_reachFrom_1 rfl (by decide) rfl rfl ?_
  refine j_msk [true, true, true, false] (jLX1_reachFrom_2 hq _ _ (fun s6 => ?_) _ _ _)
  refine j_bipush (v := 48) dX1_reachFrom_55 (by decide +kernel) (inr_d rfl) ?_
  refine j_istore_nE (ls2 := [some (.inr (.inr 79)), none, some (.inl 48), none]) dX1_reachFrom_57 rfl (by decide) rfl rfl ?_
  refine j_msk [true, false, true, false] (jLX1_reachFrom_58 hq _ (fun s10 => ?_) _ _ _)
  exact j_vret hq dX1_reachFrom_93
abbrev rmX1_choose : Room := { frames := 1, cells := 0, slots := 0, locals := 21 }
theorem dX1_choose_0 : decode cX1_choose 0 = .ok (.aload_n 0, 1) := by decide +kernel
theorem dX1_choose_1 : decode cX1_choose 1 = .ok (.iconst 0, 1) := by decide +kernel
theorem dX1_choose_2 : decode cX1_choose 2 = .ok (.putfield 70, 3) := by decide +kernel
theorem dX1_choose_5 : decode cX1_choose 5 = .ok (.iconst 0, 1) := by decide +kernel
theorem dX1_choose_6 : decode cX1_choose 6 = .ok (.istore_n 2, 1) := by decide +kernel
theorem dX1_choose_7 : decode cX1_choose 7 = .ok (.iload_n 2, 1) := by decide +kernel
theorem dX1_choose_8 : decode cX1_choose 8 = .ok (.iload_n 1, 1) := by decide +kernel
theorem dX1_choose_9 : decode cX1_choose 9 = .ok (.if_icmp .ge 111, 3) := by decide +kernel
theorem dX1_choose_12 : decode cX1_choose 12 = .ok (.iconst 0, 1) := by decide +kernel
theorem dX1_choose_13 : decode cX1_choose 13 = .ok (.istore_n 3, 1) := by decide +kernel
theorem dX1_choose_14 : decode cX1_choose 14 = .ok (.ldc 57, 2) := by decide +kernel
theorem dX1_choose_16 : decode cX1_choose 16 = .ok (.istore 4, 2) := by decide +kernel
theorem dX1_choose_18 : decode cX1_choose 18 = .ok (.iconst 1, 1) := by decide +kernel
theorem dX1_choose_19 : decode cX1_choose 19 = .ok (.istore 5, 2) := by decide +kernel
theorem dX1_choose_21 : decode cX1_choose 21 = .ok (.iload 5, 2) := by decide +kernel
theorem dX1_choose_23 : decode cX1_choose 23 = .ok (.bipush 50, 2) := by decide +kernel
theorem dX1_choose_25 : decode cX1_choose 25 = .ok (.if_icmp .gt 66, 3) := by decide +kernel
theorem dX1_choose_28 : decode cX1_choose 28 = .ok (.iload_n 2, 1) := by decide +kernel
theorem dX1_choose_29 : decode cX1_choose 29 = .ok (.ifCond .le 20, 3) := by decide +kernel
theorem dX1_choose_32 : decode cX1_choose 32 = .ok (.iload 5, 2) := by decide +kernel
theorem dX1_choose_34 : decode cX1_choose 34 = .ok (.aload_n 0, 1) := by decide +kernel
theorem dX1_choose_35 : decode cX1_choose 35 = .ok (.getfield 18, 3) := by decide +kernel
theorem dX1_choose_38 : decode cX1_choose 38 = .ok (.iload_n 2, 1) := by decide +kernel
theorem dX1_choose_39 : decode cX1_choose 39 = .ok (.iconst 1, 1) := by decide +kernel
theorem dX1_choose_40 : decode cX1_choose 40 = .ok (.isub, 1) := by decide +kernel
theorem dX1_choose_41 : decode cX1_choose 41 = .ok (.iaload, 1) := by decide +kernel
theorem dX1_choose_42 : decode cX1_choose 42 = .ok (.isub, 1) := by decide +kernel
theorem dX1_choose_43 : decode cX1_choose 43 = .ok (.invokestatic 51, 3) := by decide +kernel
theorem dX1_choose_46 : decode cX1_choose 46 = .ok (.goto 4, 3) := by decide +kernel
theorem dX1_choose_49 : decode cX1_choose 49 = .ok (.iconst 0, 1) := by decide +kernel
theorem dX1_choose_50 : decode cX1_choose 50 = .ok (.istore 6, 2) := by decide +kernel
theorem dX1_choose_52 : decode cX1_choose 52 = .ok (.iload 6, 2) := by decide +kernel
theorem dX1_choose_54 : decode cX1_choose 54 = .ok (.aload_n 0, 1) := by decide +kernel
theorem dX1_choose_55 : decode cX1_choose 55 = .ok (.getfield 9, 3) := by decide +kernel
theorem dX1_choose_58 : decode cX1_choose 58 = .ok (.iload_n 2, 1) := by decide +kernel
theorem dX1_choose_59 : decode cX1_choose 59 = .ok (.bipush 50, 2) := by decide +kernel
theorem dX1_choose_61 : decode cX1_choose 61 = .ok (.imul, 1) := by decide +kernel
theorem dX1_choose_62 : decode cX1_choose 62 = .ok (.iload 5, 2) := by decide +kernel
theorem dX1_choose_64 : decode cX1_choose 64 = .ok (.iadd, 1) := by decide +kernel
theorem dX1_choose_65 : decode cX1_choose 65 = .ok (.iconst 1, 1) := by decide +kernel
theorem dX1_choose_66 : decode cX1_choose 66 = .ok (.isub, 1) := by decide +kernel
theorem dX1_choose_67 : decode cX1_choose 67 = .ok (.iaload, 1) := by decide +kernel
theorem dX1_choose_68 : decode cX1_choose 68 = .ok (.iadd, 1) := by decide +kernel
theorem dX1_choose_69 : decode cX1_choose 69 = .ok (.istore 7, 2) := by decide +kernel
theorem dX1_choose_71 : decode cX1_choose 71 = .ok (.iload 7, 2) := by decide +kernel
theorem dX1_choose_73 : decode cX1_choose 73 = .ok (.iload 4, 2) := by decide +kernel
theorem dX1_choose_75 : decode cX1_choose 75 = .ok (.if_icmp .ge 10, 3) := by decide +kernel
theorem dX1_choose_78 : decode cX1_choose 78 = .ok (.iload 7, 2) := by decide +kernel
theorem dX1_choose_80 : decode cX1_choose 80 = .ok (.istore 4, 2) := by decide +kernel
theorem dX1_choose_82 : decode cX1_choose 82 = .ok (.iload 5, 2) := by decide +kernel
theorem dX1_choose_84 : decode cX1_choose 84 = .ok (.istore_n 3, 1) := by decide +kernel
theorem dX1_choose_85 : decode cX1_choose 85 = .ok (.iinc 5 1, 3) := by decide +kernel
theorem dX1_choose_88 : decode cX1_choose 88 = .ok (.goto (-67), 3) := by decide +kernel
theorem dX1_choose_91 : decode cX1_choose 91 = .ok (.iload_n 3, 1) := by decide +kernel
theorem dX1_choose_92 : decode cX1_choose 92 = .ok (.ifCond .ne 5, 3) := by decide +kernel
theorem dX1_choose_95 : decode cX1_choose 95 = .ok (.iconst 0, 1) := by decide +kernel
theorem dX1_choose_96 : decode cX1_choose 96 = .ok (.ireturn, 1) := by decide +kernel
theorem dX1_choose_97 : decode cX1_choose 97 = .ok (.iload_n 2, 1) := by decide +kernel
theorem dX1_choose_98 : decode cX1_choose 98 = .ok (.ifCond .ne 9, 3) := by decide +kernel
theorem dX1_choose_101 : decode cX1_choose 101 = .ok (.aload_n 0, 1) := by decide +kernel
theorem dX1_choose_102 : decode cX1_choose 102 = .ok (.iload 4, 2) := by decide +kernel
theorem dX1_choose_104 : decode cX1_choose 104 = .ok (.putfield 70, 3) := by decide +kernel
theorem dX1_choose_107 : decode cX1_choose 107 = .ok (.aload_n 0, 1) := by decide +kernel
theorem dX1_choose_108 : decode cX1_choose 108 = .ok (.getfield 18, 3) := by decide +kernel
theorem dX1_choose_111 : decode cX1_choose 111 = .ok (.iload_n 2, 1) := by decide +kernel
theorem dX1_choose_112 : decode cX1_choose 112 = .ok (.iload_n 3, 1) := by decide +kernel
theorem dX1_choose_113 : decode cX1_choose 113 = .ok (.iastore, 1) := by decide +kernel
theorem dX1_choose_114 : decode cX1_choose 114 = .ok (.iinc 2 1, 3) := by decide +kernel
theorem dX1_choose_117 : decode cX1_choose 117 = .ok (.goto (-110), 3) := by decide +kernel
theorem dX1_choose_120 : decode cX1_choose 120 = .ok (.iconst 1, 1) := by decide +kernel
theorem dX1_choose_121 : decode cX1_choose 121 = .ok (.ireturn, 1) := by decide +kernel
def LX1_choose_21 (c1 : Int) (c2 : Int) (k91 : Int → Int → Mem → Option Res) : Nat → Int → Int → Int → Mem → Option Res
  | 0 => fun _ _ _ _ => none
  | n + 1 => fun x3 x4 x5 s => (if 50 < x5 then
 k91 x3 x4 s
 else
 jn (fun (u2 : Int) (s3 : Mem) =>
 rd (s3 80) (wr ((wr ((wr (c2 * 50)) + x5)) - 1)) 800 (fun v4 =>
 lt (wr (u2 + v4)) (fun v5 =>
 (if x4 ≤ v5 then
 LX1_choose_21 c1 c2 k91 n x3 x4 (wr (x5 + 1)) s3
 else
 LX1_choose_21 c1 c2 k91 n x5 v5 (wr (x5 + 1)) s3)))) (fun k50 =>
 (if c2 ≤ 0 then
 k50 0 s
 else
 rd (s 82) (wr (c2 - 1)) 16 (fun v6 =>
 k50 (ab (wr (x5 - v6))) s))))
def LX1_choose_7 (c1 : Int) (k120 : Mem → Option Res) : Nat → Int → Mem → Option Res
  | 0 => fun _ _ => none
  | n + 1 => fun x2 s => (if c1 ≤ x2 then
 k120 s
 else
 LX1_choose_21 c1 x2 (fun y8 y9 s7 =>
 (if y8 ≠ 0 then
 jn (fun (s10 : Mem) =>
 ST s10 82 x2 16 y8 (fun s11 =>
 LX1_choose_7 c1 k120 n (wr (x2 + 1)) s11)) (fun k107 =>
 (if x2 ≠ 0 then
 k107 s7
 else
 lt (up s7 79 3 y9) (fun s12 =>
 k107 s12)))
 else
 zr 0 s7)) FU 0 1000000 1 s)
def fX1_choose (a1 : Int) (s0 : Mem) : Option Res :=
 lt (up s0 79 3 0) (fun s1 =>
 LX1_choose_7 a1 (fun s13 =>
 zr 1 s13) FU 0 s1)
set_option maxRecDepth 100000 in
set_option maxHeartbeats 4000000 in
theorem jLX1_choose_21 {K : KT} (hq : KI K (some .boolean)) (c1 : Int) (c2 : Int) (k91 : Int → Int → Mem → Option Res) (hk91 : ∀ (y3 : Int) (y4 : Int) (s : Mem), J K rmX1_choose cX1_choose RX1 8 91 [some (.inr (.inr 79)), some (.inl c1), some (.inl c2), some (.inl y3), some (.inl y4), none, none, none] [] s (k91 y3 y4 s)) : ∀ (n : Nat) (x3 : Int) (x4 : Int) (x5 : Int) (s : Mem), J K rmX1_choose cX1_choose RX1 8 21 [some (.inr (.inr 79)), some (.inl c1), some (.inl c2), some (.inl x3), some (.inl x4), some (.inl x5), none, none] [] s (LX1_choose_21 c1 c2 k91 n x3 x4 x5 s) := by
  intro n
  induction n with
  | zero => intros; exact J_none
  | succ n ih =>
    intro x3 x4 x5 s
    show J K _ _ _ _ _ _ _ _ (LX1_choose_21 c1 c2 k91 (n + 1) x3 x4 x5 s)
    simp only [LX1_choose_21]
    refine j_iload dX1_choose_21 rfl ?_
    refine j_bipush (v := 50) dX1_choose_23 (by decide +kernel) (inr_d rfl) ?_
    refine j_icmp_gt (tgt := 91) dX1_choose_25 rfl ?_ ?_
    · exact j_msk [true, true, true, true, true, false, false, false] (hk91 _ _ _)
    · refine j_iload_n dX1_choose_28 rfl rfl ?_
      refine j_jn (fun k50 => ∀ (u2 : Int) (s3 : Mem), J K rmX1_choose cX1_choose RX1 8 50 [some (.inr (.inr 79)), some (.inl c1), some (.inl c2), some (.inl x3), some (.inl x4), some (.inl x5), none, none] [.inl u2] s3 (k50 u2 s3)) (fun u2 s3 => ?_) (fun k50 hk50 => ?_)
      · refine j_istoreE (ls2 := [some (.inr (.inr 79)), some (.inl c1), some (.inl c2), some (.inl x3), some (.inl x4), some (.inl x5), some (.inl u2), none]) dX1_choose_50 (by decide) rfl rfl ?_
        refine j_iload dX1_choose_52 rfl ?_
        refine j_aload_n dX1_choose_54 rfl rfl ?_
        refine j_getR fl_RX1_9 sh_79 rfl dX1_choose_55 ?_
        refine j_iload_n dX1_choose_58 rfl rfl ?_
        refine j_bipush (v := 50) dX1_choose_59 (by decide +kernel) (inr_d rfl) ?_
        refine j_imul dX1_choose_61 ?_
        refine j_iload dX1_choose_62 rfl ?_
        refine j_iadd dX1_choose_64 ?_
        refine j_iconst dX1_choose_65 (inr_d rfl) ?_
        refine j_isub dX1_choose_66 ?_
        refine j_iald sh_80 dX1_choose_67 (fun v4 => ?_)
        refine j_iadd dX1_choose_68 ?_
        refine j_ltv (fun v5 => ?_)
        refine j_istoreE (ls2 := [some (.inr (.inr 79)), some (.inl c1), some (.inl c2), some (.inl x3), some (.inl x4), some (.inl x5), some (.inl u2), some (.inl v5)]) dX1_choose_69 (by decide) rfl rfl ?_
        refine j_iload dX1_choose_71 rfl ?_
        refine j_iload dX1_choose_73 rfl ?_
        refine j_icmp_ge (tgt := 85) dX1_choose_75 rfl ?_ ?_
        · refine j_iincE (ls2 := [some (.inr (.inr 79)), some (.inl c1), some (.inl c2), some (.inl x3), some (.inl x4), some (.inl (wr (x5 + 1))), some (.inl u2), some (.inl v5)]) dX1_choose_85 rfl (by decide) rfl rfl ?_
          refine j_goto (tgt := 21) dX1_choose_88 rfl ?_
          exact j_msk [true, true, true, true, true, true, false, false] (ih _ _ _ _)
        · refine j_iload dX1_choose_78 rfl ?_
          refine j_istoreE (ls2 := [some (.inr (.inr 79)), some (.inl c1), some (.inl c2), some (.inl x3), some (.inl v5), some (.inl x5), some (.inl u2), some (.inl v5)]) dX1_choose_80 (by decide) rfl rfl ?_
          refine j_iload dX1_choose_82 rfl ?_
          refine j_istore_nE (ls2 := [some (.inr (.inr 79)), some (.inl c1), some (.inl c2), some (.inl x5), some (.inl v5), some (.inl x5), some (.inl u2), some (.inl v5)]) dX1_choose_84 rfl (by decide) rfl rfl ?_
          refine j_iincE (ls2 := [some (.inr (.inr 79)), some (.inl c1), some (.inl c2), some (.inl x5), some (.inl v5), some (.inl (wr (x5 + 1))), some (.inl u2), some (.inl v5)]) dX1_choose_85 rfl (by decide) rfl rfl ?_
          refine j_goto (tgt := 21) dX1_choose_88 rfl ?_
          exact j_msk [true, true, true, true, true, true, false, false] (ih _ _ _ _)
      refine j_if_le (tgt := 49) dX1_choose_29 rfl ?_ ?_
      · refine j_iconst dX1_choose_49 (inr_d rfl) ?_
        exact j_msk [true, true, true, true, true, true, false, false] (hk50 _ _)
      · refine j_iload dX1_choose_32 rfl ?_
        refine j_aload_n dX1_choose_34 rfl rfl ?_
        refine j_getR fl_RX1_18 sh_79 rfl dX1_choose_35 ?_
        refine j_iload_n dX1_choose_38 rfl rfl ?_
        refine j_iconst dX1_choose_39 (inr_d rfl) ?_
        refine j_isub dX1_choose_40 ?_
        refine j_iald sh_82 dX1_choose_41 (fun v6 => ?_)
        refine j_isub dX1_choose_42 ?_
        refine j_abs mw_RX1_51 ⟨by decide, Nat.le_of_ble_eq_true rfl⟩ dX1_choose_43 ?_
        refine j_goto (tgt := 50) dX1_choose_46 rfl ?_
        exact j_msk [true, true, true, true, true, true, false, false] (hk50 _ _)
set_option maxRecDepth 100000 in
set_option maxHeartbeats 4000000 in
theorem jLX1_choose_7 {K : KT} (hq : KI K (some .boolean)) (c1 : Int) (k120 : Mem → Option Res) (hk120 : ∀ (s : Mem), J K rmX1_choose cX1_choose RX1 8 120 [none, none, none, none, none, none, none, none] [] s (k120 s)) : ∀ (n : Nat) (x2 : Int) (s : Mem), J K rmX1_choose cX1_choose RX1 8 7 [some (.inr (.inr 79)), some (.inl c1), some (.inl x2), none, none, none, none, none] [] s (LX1_choose_7 c1 k120 n x2 s) := by
  intro n
  induction n with
  | zero => intros; exact J_none
  | succ n ih =>
    intro x2 s
    show J K _ _ _ _ _ _ _ _ (LX1_choose_7 c1 k120 (n + 1) x2 s)
    simp only [LX1_choose_7]
    refine j_iload_n dX1_choose_7 rfl rfl ?_
    refine j_iload_n dX1_choose_8 rfl rfl ?_
    refine j_icmp_ge (tgt := 120) dX1_choose_9 rfl ?_ ?_
    · exact j_msk [false, false, false, false, false, false, false, false] (hk120 _)
    · refine j_iconst dX1_choose_12 (inr_d rfl) ?_
      refine j_istore_nE (ls2 := [some (.inr (.inr 79)), some (.inl c1), some (.inl x2), some (.inl 0), none, none, none, none]) dX1_choose_13 rfl (by decide) rfl rfl ?_
      refine j_ldc (v := 1000000) dX1_choose_14 cst_RX1_57 (inr_d rfl) ?_
      refine j_istoreE (ls2 := [some (.inr (.inr 79)), some (.inl c1), some (.inl x2), some (.inl 0), some (.inl 1000000), none, none, none]) dX1_choose_16 (by decide) rfl rfl ?_
      refine j_iconst dX1_choose_18 (inr_d rfl) ?_
      refine j_istoreE (ls2 := [some (.inr (.inr 79)), some (.inl c1), some (.inl x2), some (.inl 0), some (.inl 1000000), some (.inl 1), none, none]) dX1_choose_19 (by decide) rfl rfl ?_
      refine j_msk [true, true, true, true, true, true, false, false] (jLX1_choose_21 hq _ _ _ (fun y8 y9 s7 => ?_) _ _ _ _ _)
      refine j_iload_n dX1_choose_91 rfl rfl ?_
      refine j_if_ne (tgt := 97) dX1_choose_92 rfl ?_ ?_
      · refine j_iload_n dX1_choose_97 rfl rfl ?_
        refine j_jn (fun k107 => ∀ (s10 : Mem), J K rmX1_choose cX1_choose RX1 8 107 [some (.inr (.inr 79)), some (.inl c1), some (.inl x2), some (.inl y8), none, none, none, none] [] s10 (k107 s10)) (fun s10 => ?_) (fun k107 hk107 => ?_)
        · refine j_aload_n dX1_choose_107 rfl rfl ?_
          refine j_getR fl_RX1_18 sh_79 rfl dX1_choose_108 ?_
          refine j_iload_n dX1_choose_111 rfl rfl ?_
          refine j_iload_n dX1_choose_112 rfl rfl ?_
          refine j_iast sh_82 dX1_choose_113 (fun s11 => ?_)
          refine j_iincE (ls2 := [some (.inr (.inr 79)), some (.inl c1), some (.inl (wr (x2 + 1))), some (.inl y8), none, none, none, none]) dX1_choose_114 rfl (by decide) rfl rfl ?_
          refine j_goto (tgt := 7) dX1_choose_117 rfl ?_
          exact j_msk [true, true, true, false, false, false, false, false] (ih _ _)
        refine j_if_ne (tgt := 107) dX1_choose_98 rfl ?_ ?_
        · exact j_msk [true, true, true, true, false, false, false, false] (hk107 _)
        · refine j_aload_n dX1_choose_101 rfl rfl ?_
          refine j_iload dX1_choose_102 rfl ?_
          refine j_putI fp_RX1_70 sh_79 rfl dX1_choose_104 (fun s12 => ?_)
          exact j_msk [true, true, true, true, false, false, false, false] (hk107 _)
      · refine j_iconst dX1_choose_95 (inr_d rfl) ?_
        exact j_zret hq dX1_choose_96
set_option maxRecDepth 100000 in
set_option maxHeartbeats 4000000 in
theorem mX1_choose (l : Launch) (D : va_G) (ad : Nat → Nat) (cA : Nat → ClassId) (a1 : Int) (s0 : Mem) : MCi l D ad cA yX1_choose cX1_choose 8 (some .boolean) rmX1_choose [.inr (.inr 79), .inl a1] s0 (fX1_choose a1 s0) := by
  refine MCi_ofE (own := RX1) (ls := [some (.inr (.inr 79)), some (.inl a1), none, none, none, none, none, none]) 6 (by decide +kernel) rfl rfl (fun _ => Nat.le_of_ble_eq_true rfl) (fun K hq => ?_)
  unfold fX1_choose
  refine j_aload_n dX1_choose_0 rfl rfl ?_
  refine j_iconst dX1_choose_1 (inr_d rfl) ?_
  refine j_putI fp_RX1_70 sh_79 rfl dX1_choose_2 (fun s1 => ?_)
  refine j_iconst dX1_choose_5 (inr_d rfl) ?_
  refine j_istore_nE (ls2 := [some (.inr (.inr 79)), some (.inl a1), some (.inl 0), none, none, none, none, none]) dX1_choose_6 rfl (by decide) rfl rfl ?_
  refine j_msk [true, true, true, false, false, false, false, false] (jLX1_choose_7 hq _ _ (fun s13 => ?_) _ _ _)
  refine j_iconst dX1_choose_120 (inr_d rfl) ?_
  exact j_zret hq dX1_choose_121
abbrev rmX1_solve : Room := { frames := 4, cells := 0, slots := 0, locals := 92 }
theorem dX1_solve_0 : decode cX1_solve 0 = .ok (.aload_n 2, 1) := by decide +kernel
theorem dX1_solve_1 : decode cX1_solve 1 = .ok (.getfield 21, 3) := by decide +kernel
theorem dX1_solve_4 : decode cX1_solve 4 = .ok (.getfield 27, 3) := by decide +kernel
theorem dX1_solve_7 : decode cX1_solve 7 = .ok (.istore 7, 2) := by decide +kernel
theorem dX1_solve_9 : decode cX1_solve 9 = .ok (.aload_n 0, 1) := by decide +kernel
theorem dX1_solve_10 : decode cX1_solve 10 = .ok (.getfield 15, 3) := by decide +kernel
theorem dX1_solve_13 : decode cX1_solve 13 = .ok (.iconst 0, 1) := by decide +kernel
theorem dX1_solve_14 : decode cX1_solve 14 = .ok (.invokestatic 33, 3) := by decide +kernel
theorem dX1_solve_17 : decode cX1_solve 17 = .ok (.iload 7, 2) := by decide +kernel
theorem dX1_solve_19 : decode cX1_solve 19 = .ok (.iconst 1, 1) := by decide +kernel
theorem dX1_solve_20 : decode cX1_solve 20 = .ok (.isub, 1) := by decide +kernel
theorem dX1_solve_21 : decode cX1_solve 21 = .ok (.istore 8, 2) := by decide +kernel
theorem dX1_solve_23 : decode cX1_solve 23 = .ok (.iload 8, 2) := by decide +kernel
theorem dX1_solve_25 : decode cX1_solve 25 = .ok (.ifCond .lt 130, 3) := by decide +kernel
theorem dX1_solve_28 : decode cX1_solve 28 = .ok (.iload 8, 2) := by decide +kernel
theorem dX1_solve_30 : decode cX1_solve 30 = .ok (.iconst 3, 1) := by decide +kernel
theorem dX1_solve_31 : decode cX1_solve 31 = .ok (.imul, 1) := by decide +kernel
theorem dX1_solve_32 : decode cX1_solve 32 = .ok (.iload 5, 2) := by decide +kernel
theorem dX1_solve_34 : decode cX1_solve 34 = .ok (.iadd, 1) := by decide +kernel
theorem dX1_solve_35 : decode cX1_solve 35 = .ok (.istore 9, 2) := by decide +kernel
theorem dX1_solve_37 : decode cX1_solve 37 = .ok (.iconst 1, 1) := by decide +kernel
theorem dX1_solve_38 : decode cX1_solve 38 = .ok (.istore 10, 2) := by decide +kernel
theorem dX1_solve_40 : decode cX1_solve 40 = .ok (.iload 10, 2) := by decide +kernel
theorem dX1_solve_42 : decode cX1_solve 42 = .ok (.bipush 50, 2) := by decide +kernel
theorem dX1_solve_44 : decode cX1_solve 44 = .ok (.if_icmp .gt 99, 3) := by decide +kernel
theorem dX1_solve_47 : decode cX1_solve 47 = .ok (.aload_n 1, 1) := by decide +kernel
theorem dX1_solve_48 : decode cX1_solve 48 = .ok (.iload_n 3, 1) := by decide +kernel
theorem dX1_solve_49 : decode cX1_solve 49 = .ok (.iload 5, 2) := by decide +kernel
theorem dX1_solve_51 : decode cX1_solve 51 = .ok (.iload 10, 2) := by decide +kernel
theorem dX1_solve_53 : decode cX1_solve 53 = .ok (.aload_n 2, 1) := by decide +kernel
theorem dX1_solve_54 : decode cX1_solve 54 = .ok (.getfield 39, 3) := by decide +kernel
theorem dX1_solve_57 : decode cX1_solve 57 = .ok (.iload 9, 2) := by decide +kernel
theorem dX1_solve_59 : decode cX1_solve 59 = .ok (.iaload, 1) := by decide +kernel
theorem dX1_solve_60 : decode cX1_solve 60 = .ok (.iload 4, 2) := by decide +kernel
theorem dX1_solve_62 : decode cX1_solve 62 = .ok (.invokevirtual 42, 3) := by decide +kernel
theorem dX1_solve_65 : decode cX1_solve 65 = .ok (.istore 11, 2) := by decide +kernel
theorem dX1_solve_67 : decode cX1_solve 67 = .ok (.aload_n 2, 1) := by decide +kernel
theorem dX1_solve_68 : decode cX1_solve 68 = .ok (.getfield 48, 3) := by decide +kernel
theorem dX1_solve_71 : decode cX1_solve 71 = .ok (.iload 9, 2) := by decide +kernel
theorem dX1_solve_73 : decode cX1_solve 73 = .ok (.iaload, 1) := by decide +kernel
theorem dX1_solve_74 : decode cX1_solve 74 = .ok (.iconst (-1), 1) := by decide +kernel
theorem dX1_solve_75 : decode cX1_solve 75 = .ok (.if_icmp .eq 21, 3) := by decide +kernel
theorem dX1_solve_78 : decode cX1_solve 78 = .ok (.iload 11, 2) := by decide +kernel
theorem dX1_solve_80 : decode cX1_solve 80 = .ok (.aload_n 2, 1) := by decide +kernel
theorem dX1_solve_81 : decode cX1_solve 81 = .ok (.getfield 48, 3) := by decide +kernel
theorem dX1_solve_84 : decode cX1_solve 84 = .ok (.iload 9, 2) := by decide +kernel
theorem dX1_solve_86 : decode cX1_solve 86 = .ok (.iaload, 1) := by decide +kernel
theorem dX1_solve_87 : decode cX1_solve 87 = .ok (.isub, 1) := by decide +kernel
theorem dX1_solve_88 : decode cX1_solve 88 = .ok (.invokestatic 51, 3) := by decide +kernel
theorem dX1_solve_91 : decode cX1_solve 91 = .ok (.iload 6, 2) := by decide +kernel
theorem dX1_solve_93 : decode cX1_solve 93 = .ok (.if_icmp .gt 7, 3) := by decide +kernel
theorem dX1_solve_96 : decode cX1_solve 96 = .ok (.iconst 1, 1) := by decide +kernel
theorem dX1_solve_97 : decode cX1_solve 97 = .ok (.goto 4, 3) := by decide +kernel
theorem dX1_solve_100 : decode cX1_solve 100 = .ok (.iconst 0, 1) := by decide +kernel
theorem dX1_solve_101 : decode cX1_solve 101 = .ok (.istore 12, 2) := by decide +kernel
theorem dX1_solve_103 : decode cX1_solve 103 = .ok (.aload_n 0, 1) := by decide +kernel
theorem dX1_solve_104 : decode cX1_solve 104 = .ok (.getfield 9, 3) := by decide +kernel
theorem dX1_solve_107 : decode cX1_solve 107 = .ok (.iload 8, 2) := by decide +kernel
theorem dX1_solve_109 : decode cX1_solve 109 = .ok (.bipush 50, 2) := by decide +kernel
theorem dX1_solve_111 : decode cX1_solve 111 = .ok (.imul, 1) := by decide +kernel
theorem dX1_solve_112 : decode cX1_solve 112 = .ok (.iload 10, 2) := by decide +kernel
theorem dX1_solve_114 : decode cX1_solve 114 = .ok (.iadd, 1) := by decide +kernel
theorem dX1_solve_115 : decode cX1_solve 115 = .ok (.iconst 1, 1) := by decide +kernel
theorem dX1_solve_116 : decode cX1_solve 116 = .ok (.isub, 1) := by decide +kernel
theorem dX1_solve_117 : decode cX1_solve 117 = .ok (.iload 12, 2) := by decide +kernel
theorem dX1_solve_119 : decode cX1_solve 119 = .ok (.ifCond .eq 15, 3) := by decide +kernel
theorem dX1_solve_122 : decode cX1_solve 122 = .ok (.aload_n 0, 1) := by decide +kernel
theorem dX1_solve_123 : decode cX1_solve 123 = .ok (.getfield 15, 3) := by decide +kernel
theorem dX1_solve_126 : decode cX1_solve 126 = .ok (.iload 10, 2) := by decide +kernel
theorem dX1_solve_128 : decode cX1_solve 128 = .ok (.iconst 1, 1) := by decide +kernel
theorem dX1_solve_129 : decode cX1_solve 129 = .ok (.isub, 1) := by decide +kernel
theorem dX1_solve_130 : decode cX1_solve 130 = .ok (.iaload, 1) := by decide +kernel
theorem dX1_solve_131 : decode cX1_solve 131 = .ok (.goto 5, 3) := by decide +kernel
theorem dX1_solve_134 : decode cX1_solve 134 = .ok (.ldc 57, 2) := by decide +kernel
theorem dX1_solve_136 : decode cX1_solve 136 = .ok (.iastore, 1) := by decide +kernel
theorem dX1_solve_137 : decode cX1_solve 137 = .ok (.iinc 10 1, 3) := by decide +kernel
theorem dX1_solve_140 : decode cX1_solve 140 = .ok (.goto (-100), 3) := by decide +kernel
theorem dX1_solve_143 : decode cX1_solve 143 = .ok (.aload_n 0, 1) := by decide +kernel
theorem dX1_solve_144 : decode cX1_solve 144 = .ok (.iload 8, 2) := by decide +kernel
theorem dX1_solve_146 : decode cX1_solve 146 = .ok (.invokevirtual 58, 3) := by decide +kernel
theorem dX1_solve_149 : decode cX1_solve 149 = .ok (.iinc 8 (-1), 3) := by decide +kernel
theorem dX1_solve_152 : decode cX1_solve 152 = .ok (.goto (-129), 3) := by decide +kernel
theorem dX1_solve_155 : decode cX1_solve 155 = .ok (.aload_n 0, 1) := by decide +kernel
theorem dX1_solve_156 : decode cX1_solve 156 = .ok (.iload 7, 2) := by decide +kernel
theorem dX1_solve_158 : decode cX1_solve 158 = .ok (.invokevirtual 62, 3) := by decide +kernel
theorem dX1_solve_161 : decode cX1_solve 161 = .ok (.ireturn, 1) := by decide +kernel
def LX1_solve_40 (t2 : Nat) (c3 : Int) (c4 : Int) (c5 : Int) (c6 : Int) (c7 : Int) (c8 : Int) (c9 : Int) (k143 : Mem → Option Res) : Nat → Int → Mem → Option Res
  | 0 => fun _ _ => none
  | n + 1 => fun x10 s => (if 50 < x10 then
 k143 s
 else
 rd (s (t2 + 10)) c9 48 (fun v6 =>
 bnd (fX9_printed c3 c5 x10 v6 c4 s) (fun r7 s8 =>
 rd (s8 (t2 + 11)) c9 48 (fun v9 =>
 jn (fun (u10 : Int) (s11 : Mem) =>
 jn (fun (u12 : Int) (s13 : Mem) =>
 ST s13 80 (wr ((wr ((wr (c8 * 50)) + x10)) - 1)) 800 u12 (fun s14 =>
 LX1_solve_40 t2 c3 c4 c5 c6 c7 c8 c9 k143 n (wr (x10 + 1)) s14)) (fun k136 =>
 (if u10 = 0 then
 k136 1000000 s11
 else
 rd (s11 81) (wr (x10 - 1)) 50 (fun v15 =>
 k136 v15 s11)))) (fun k101 =>
 (if v9 = (-1) then
 k101 1 s8
 else
 rd (s8 (t2 + 11)) c9 48 (fun v16 =>
 (if c6 < ab (wr (r7 - v16)) then
 k101 0 s8
 else
 k101 1 s8))))))))
def LX1_solve_23 (t2 : Nat) (c3 : Int) (c4 : Int) (c5 : Int) (c6 : Int) (c7 : Int) (k155 : Mem → Option Res) : Nat → Int → Mem → Option Res
  | 0 => fun _ _ => none
  | n + 1 => fun x8 s => (if x8 < 0 then
 k155 s
 else
 lt (wr ((wr (x8 * 3)) + c5)) (fun v5 =>
 LX1_solve_40 t2 c3 c4 c5 c6 c7 x8 v5 (fun s17 =>
 bnd (fX1_reachFrom x8 s17) (fun _ s19 =>
 LX1_solve_23 t2 c3 c4 c5 c6 c7 k155 n (wr (x8 + (-1))) s19)) FU 1 s))
def fX1_solve (t2 : Nat) (a3 : Int) (a4 : Int) (a5 : Int) (a6 : Int) (s0 : Mem) : Option Res :=
 lt (s0 (t2 + 1) 0) (fun v1 =>
 bnd (fJ7_fill_53178 81 50 0 s0) (fun _ s3 =>
 lt (wr (v1 - 1)) (fun v4 =>
 LX1_solve_23 t2 a3 a4 a5 a6 v1 (fun s20 =>
 bnd (fX1_choose v1 s20) (fun r21 s22 =>
 zr r21 s22)) FU v4 s3)))
set_option maxRecDepth 100000 in
set_option maxHeartbeats 4000000 in
theorem jLX1_solve_40 {K : KT} (hq : KI K (some .boolean)) (t2 : Nat) (h2 : isJo t2) (c3 : Int) (c4 : Int) (c5 : Int) (c6 : Int) (c7 : Int) (c8 : Int) (c9 : Int) (k143 : Mem → Option Res) (hk143 : ∀ (s : Mem), J K rmX1_solve cX1_solve RX1 13 143 [some (.inr (.inr 79)), some (.inr (.inr 1)), some (.inr (.inr t2)), some (.inl c3), some (.inl c4), some (.inl c5), some (.inl c6), some (.inl c7), some (.inl c8), none, none, none, none] [] s (k143 s)) : ∀ (n : Nat) (x10 : Int) (s : Mem), J K rmX1_solve cX1_solve RX1 13 40 [some (.inr (.inr 79)), some (.inr (.inr 1)), some (.inr (.inr t2)), some (.inl c3), some (.inl c4), some (.inl c5), some (.inl c6), some (.inl c7), some (.inl c8), some (.inl c9), some (.inl x10), none, none] [] s (LX1_solve_40 t2 c3 c4 c5 c6 c7 c8 c9 k143 n x10 s) := by
  intro n
  induction n with
  | zero => intros; exact J_none
  | succ n ih =>
    intro x10 s
    show J K _ _ _ _ _ _ _ _ (LX1_solve_40 t2 c3 c4 c5 c6 c7 c8 c9 k143 (n + 1) x10 s)
    simp only [LX1_solve_40]
    refine j_iload dX1_solve_40 rfl ?_
    refine j_bipush (v := 50) dX1_solve_42 (by decide +kernel) (inr_d rfl) ?_
    refine j_icmp_gt (tgt := 143) dX1_solve_44 rfl ?_ ?_
    · exact j_msk [true, true, true, true, true, true, true, true, true, false, false, false, false] (hk143 _)
    · refine j_aload_n dX1_solve_47 rfl rfl ?_
      refine j_iload_n dX1_solve_48 rfl rfl ?_
      refine j_iload dX1_solve_49 rfl ?_
      refine j_iload dX1_solve_51 rfl ?_
      refine j_aload_n dX1_solve_53 rfl rfl ?_
      refine j_getR fl_RX1_39 (jo_o h2) rfl dX1_solve_54 ?_
      refine j_iload dX1_solve_57 rfl ?_
      refine j_iald (jo_1 h2) dX1_solve_59 (fun v6 => ?_)
      refine j_iload dX1_solve_60 rfl ?_
      refine j_callVi (mX9_printed (kl K) (kD K) (kad K) (kcA K) c3 c5 x10 v6 c4 s) cw_RX1_42 sh_1 rfl ⟨rfl, rfl, by decide, by decide⟩ rfl rfl (Nat.le_of_ble_eq_true rfl) dX1_solve_62 (fun r7 s8 => ?_)
      refine j_istoreE (ls2 := [some (.inr (.inr 79)), some (.inr (.inr 1)), some (.inr (.inr t2)), some (.inl c3), some (.inl c4), some (.inl c5), some (.inl c6), some (.inl c7), some (.inl c8), some (.inl c9), some (.inl x10), some (.inl r7), none]) dX1_solve_65 (by decide) rfl rfl ?_
      refine j_aload_n dX1_solve_67 rfl rfl ?_
      refine j_getR fl_RX1_48 (jo_o h2) rfl dX1_solve_68 ?_
      refine j_iload dX1_solve_71 rfl ?_
      refine j_iald (jo_2 h2) dX1_solve_73 (fun v9 => ?_)
      refine j_iconst dX1_solve_74 (inr_d rfl) ?_
      refine j_jn (fun k101 => ∀ (u10 : Int) (s11 : Mem), J K rmX1_solve cX1_solve RX1 13 101 [some (.inr (.inr 79)), some (.inr (.inr 1)), some (.inr (.inr t2)), some (.inl c3), some (.inl c4), some (.inl c5), some (.inl c6), some (.inl c7), some (.inl c8), some (.inl c9), some (.inl x10), none, none] [.inl u10] s11 (k101 u10 s11)) (fun u10 s11 => ?_) (fun k101 hk101 => ?_)
      · refine j_istoreE (ls2 := [some (.inr (.inr 79)), some (.inr (.inr 1)), some (.inr (.inr t2)), some (.inl c3), some (.inl c4), some (.inl c5), some (.inl c6), some (.inl c7), some (.inl c8), some (.inl c9), some (.inl x10), none, some (.inl u10)]) dX1_solve_101 (by decide) rfl rfl ?_
        refine j_aload_n dX1_solve_103 rfl rfl ?_
        refine j_getR fl_RX1_9 sh_79 rfl dX1_solve_104 ?_
        refine j_iload dX1_solve_107 rfl ?_
        refine j_bipush (v := 50) dX1_solve_109 (by decide +kernel) (inr_d rfl) ?_
        refine j_imul dX1_solve_111 ?_
        refine j_iload dX1_solve_112 rfl ?_
        refine j_iadd dX1_solve_114 ?_
        refine j_iconst dX1_solve_115 (inr_d rfl) ?_
        refine j_isub dX1_solve_116 ?_
        refine j_iload dX1_solve_117 rfl ?_
        refine j_jn (fun k136 => ∀ (u12 : Int) (s13 : Mem), J K rmX1_solve cX1_solve RX1 13 136 [some (.inr (.inr 79)), some (.inr (.inr 1)), some (.inr (.inr t2)), some (.inl c3), some (.inl c4), some (.inl c5), some (.inl c6), some (.inl c7), some (.inl c8), some (.inl c9), some (.inl x10), none, none] [.inl u12, .inl (wr ((wr ((wr (c8 * 50)) + x10)) - 1)), .inr (.inr 80)] s13 (k136 u12 s13)) (fun u12 s13 => ?_) (fun k136 hk136 => ?_)
        · refine j_iast sh_80 dX1_solve_136 (fun s14 => ?_)
          refine j_iincE (ls2 := [some (.inr (.inr 79)), some (.inr (.inr 1)), some (.inr (.inr t2)), some (.inl c3), some (.inl c4), some (.inl c5), some (.inl c6), some (.inl c7), some (.inl c8), some (.inl c9), some (.inl (wr (x10 + 1))), none, none]) dX1_solve_137 rfl (by decide) rfl rfl ?_
          refine j_goto (tgt := 40) dX1_solve_140 rfl ?_
          exact j_msk [true, true, true, true, true, true, true, true, true, true, true, false, false] (ih _ _)
        refine j_if_eq (tgt := 134) dX1_solve_119 rfl ?_ ?_
        · refine j_ldc (v := 1000000) dX1_solve_134 cst_RX1_57 (inr_d rfl) ?_
          exact j_msk [true, true, true, true, true, true, true, true, true, true, true, false, false] (hk136 _ _)
        · refine j_aload_n dX1_solve_122 rfl rfl ?_
          refine j_getR fl_RX1_15 sh_79 rfl dX1_solve_123 ?_
          refine j_iload dX1_solve_126 rfl ?_
          refine j_iconst dX1_solve_128 (inr_d rfl) ?_
          refine j_isub dX1_solve_129 ?_
          refine j_iald sh_81 dX1_solve_130 (fun v15 => ?_)
          refine j_goto (tgt := 136) dX1_solve_131 rfl ?_
          exact j_msk [true, true, true, true, true, true, true, true, true, true, true, false, false] (hk136 _ _)
      refine j_icmp_eq (tgt := 96) dX1_solve_75 rfl ?_ ?_
      · refine j_iconst dX1_solve_96 (inr_d rfl) ?_
        refine j_goto (tgt := 101) dX1_solve_97 rfl ?_
        exact j_msk [true, true, true, true, true, true, true, true, true, true, true, false, false] (hk101 _ _)
      · refine j_iload dX1_solve_78 rfl ?_
        refine j_aload_n dX1_solve_80 rfl rfl ?_
        refine j_getR fl_RX1_48 (jo_o h2) rfl dX1_solve_81 ?_
        refine j_iload dX1_solve_84 rfl ?_
        refine j_iald (jo_2 h2) dX1_solve_86 (fun v16 => ?_)
        refine j_isub dX1_solve_87 ?_
        refine j_abs mw_RX1_51 ⟨by decide, Nat.le_of_ble_eq_true rfl⟩ dX1_solve_88 ?_
        refine j_iload dX1_solve_91 rfl ?_
        refine j_icmp_gt (tgt := 100) dX1_solve_93 rfl ?_ ?_
        · refine j_iconst dX1_solve_100 (inr_d rfl) ?_
          exact j_msk [true, true, true, true, true, true, true, true, true, true, true, false, false] (hk101 _ _)
        · refine j_iconst dX1_solve_96 (inr_d rfl) ?_
          refine j_goto (tgt := 101) dX1_solve_97 rfl ?_
          exact j_msk [true, true, true, true, true, true, true, true, true, true, true, false, false] (hk101 _ _)
set_option maxRecDepth 100000 in
set_option maxHeartbeats 4000000 in
theorem jLX1_solve_23 {K : KT} (hq : KI K (some .boolean)) (t2 : Nat) (h2 : isJo t2) (c3 : Int) (c4 : Int) (c5 : Int) (c6 : Int) (c7 : Int) (k155 : Mem → Option Res) (hk155 : ∀ (s : Mem), J K rmX1_solve cX1_solve RX1 13 155 [some (.inr (.inr 79)), none, none, none, none, none, none, some (.inl c7), none, none, none, none, none] [] s (k155 s)) : ∀ (n : Nat) (x8 : Int) (s : Mem), J K rmX1_solve cX1_solve RX1 13 23 [some (.inr (.inr 79)), some (.inr (.inr 1)), some (.inr (.inr t2)), some (.inl c3), some (.inl c4), some (.inl c5), some (.inl c6), some (.inl c7), some (.inl x8), none, none, none, none] [] s (LX1_solve_23 t2 c3 c4 c5 c6 c7 k155 n x8 s) := by
  intro n
  induction n with
  | zero => intros; exact J_none
  | succ n ih =>
    intro x8 s
    show J K _ _ _ _ _ _ _ _ (LX1_solve_23 t2 c3 c4 c5 c6 c7 k155 (n + 1) x8 s)
    simp only [LX1_solve_23]
    refine j_iload dX1_solve_23 rfl ?_
    refine j_if_lt (tgt := 155) dX1_solve_25 rfl ?_ ?_
    · exact j_msk [true, false, false, false, false, false, false, true, false, false, false, false, false] (hk155 _)
    · refine j_iload dX1_solve_28 rfl ?_
      refine j_iconst dX1_solve_30 (inr_d rfl) ?_
      refine j_imul dX1_solve_31 ?_
      refine j_iload dX1_solve_32 rfl ?_
      refine j_iadd dX1_solve_34 ?_
      refine j_ltv (fun v5 => ?_)
      refine j_istoreE (ls2 := [some (.inr (.inr 79)), some (.inr (.inr 1)), some (.inr (.inr t2)), some (.inl c3), some (.inl c4), some (.inl c5), some (.inl c6), some (.inl c7), some (.inl x8), some (.inl v5), none, none, none]) dX1_solve_35 (by decide) rfl rfl ?_
      refine j_iconst dX1_solve_37 (inr_d rfl) ?_
      refine j_istoreE (ls2 := [some (.inr (.inr 79)), some (.inr (.inr 1)), some (.inr (.inr t2)), some (.inl c3), some (.inl c4), some (.inl c5), some (.inl c6), some (.inl c7), some (.inl x8), some (.inl v5), some (.inl 1), none, none]) dX1_solve_38 (by decide) rfl rfl ?_
      refine j_msk [true, true, true, true, true, true, true, true, true, true, true, false, false] (jLX1_solve_40 hq t2 h2 _ _ _ _ _ _ _ _ (fun s17 => ?_) _ _ _)
      refine j_aload_n dX1_solve_143 rfl rfl ?_
      refine j_iload dX1_solve_144 rfl ?_
      refine j_callVv (mX1_reachFrom (kl K) (kD K) (kad K) (kcA K) x8 s17) cw_RX1_58 sh_79 rfl ⟨rfl, rfl, by decide, by decide⟩ rfl rfl (Nat.le_of_ble_eq_true rfl) dX1_solve_146 (fun _ s19 => ?_)
      refine j_iincE (ls2 := [some (.inr (.inr 79)), some (.inr (.inr 1)), some (.inr (.inr t2)), some (.inl c3), some (.inl c4), some (.inl c5), some (.inl c6), some (.inl c7), some (.inl (wr (x8 + (-1)))), none, none, none, none]) dX1_solve_149 rfl (by decide) rfl rfl ?_
      refine j_goto (tgt := 23) dX1_solve_152 rfl ?_
      exact j_msk [true, true, true, true, true, true, true, true, true, false, false, false, false] (ih _ _)
set_option maxRecDepth 100000 in
set_option maxHeartbeats 4000000 in
theorem mX1_solve (l : Launch) (D : va_G) (ad : Nat → Nat) (cA : Nat → ClassId) (t2 : Nat) (h2 : isJo t2) (a3 : Int) (a4 : Int) (a5 : Int) (a6 : Int) (s0 : Mem) : MCi l D ad cA yX1_solve cX1_solve 13 (some .boolean) rmX1_solve [.inr (.inr 79), .inr (.inr 1), .inr (.inr t2), .inl a3, .inl a4, .inl a5, .inl a6] s0 (fX1_solve t2 a3 a4 a5 a6 s0) := by
  refine MCi_ofE (own := RX1) (ls := [some (.inr (.inr 79)), some (.inr (.inr 1)), some (.inr (.inr t2)), some (.inl a3), some (.inl a4), some (.inl a5), some (.inl a6), none, none, none, none, none, none]) 6 (by decide +kernel) rfl rfl (fun _ => Nat.le_of_ble_eq_true rfl) (fun K hq => ?_)
  unfold fX1_solve
  refine j_aload_n dX1_solve_0 rfl rfl ?_
  refine j_getR fl_RX1_21 (jo_o h2) rfl dX1_solve_1 ?_
  refine j_getI fl_RX1_27 (sc_o (jo_0 h2)) rfl dX1_solve_4 ?_
  refine j_ltv (fun v1 => ?_)
  refine j_istoreE (ls2 := [some (.inr (.inr 79)), some (.inr (.inr 1)), some (.inr (.inr t2)), some (.inl a3), some (.inl a4), some (.inl a5), some (.inl a6), some (.inl v1), none, none, none, none, none]) dX1_solve_7 (by decide) rfl rfl ?_
  refine j_aload_n dX1_solve_9 rfl rfl ?_
  refine j_getR fl_RX1_15 sh_79 rfl dX1_solve_10 ?_
  refine j_iconst dX1_solve_13 (inr_d rfl) ?_
  refine j_callSv (mJ7_fill_53178 (kl K) (kD K) (kad K) (kcA K) 81 50 sh_81 (by decide) 0 s0) cw_RX1_33 ⟨rfl, rfl, by decide, by decide⟩ rfl rfl (Nat.le_of_ble_eq_true rfl) dX1_solve_14 (fun _ s3 => ?_)
  refine j_iload dX1_solve_17 rfl ?_
  refine j_iconst dX1_solve_19 (inr_d rfl) ?_
  refine j_isub dX1_solve_20 ?_
  refine j_ltv (fun v4 => ?_)
  refine j_istoreE (ls2 := [some (.inr (.inr 79)), some (.inr (.inr 1)), some (.inr (.inr t2)), some (.inl a3), some (.inl a4), some (.inl a5), some (.inl a6), some (.inl v1), some (.inl v4), none, none, none, none]) dX1_solve_21 (by decide) rfl rfl ?_
  refine j_msk [true, true, true, true, true, true, true, true, true, false, false, false, false] (jLX1_solve_23 hq t2 h2 _ _ _ _ _ _ (fun s20 => ?_) _ _ _)
  refine j_aload_n dX1_solve_155 rfl rfl ?_
  refine j_iload dX1_solve_156 rfl ?_
  refine j_callVi (mX1_choose (kl K) (kD K) (kad K) (kcA K) v1 s20) cw_RX1_62 sh_79 rfl ⟨rfl, rfl, by decide, by decide⟩ rfl rfl (Nat.le_of_ble_eq_true rfl) dX1_solve_158 (fun r21 s22 => ?_)
  exact j_zret hq dX1_solve_161
abbrev rmX10_copy : Room := { frames := 1, cells := 0, slots := 0, locals := 60 }
theorem dX10_copy_0 : decode cX10_copy 0 = .ok (.aload_n 0, 1) := by decide +kernel
theorem dX10_copy_1 : decode cX10_copy 1 = .ok (.iconst 0, 1) := by decide +kernel
theorem dX10_copy_2 : decode cX10_copy 2 = .ok (.aload_n 1, 1) := by decide +kernel
theorem dX10_copy_3 : decode cX10_copy 3 = .ok (.iconst 0, 1) := by decide +kernel
theorem dX10_copy_4 : decode cX10_copy 4 = .ok (.aload_n 0, 1) := by decide +kernel
theorem dX10_copy_5 : decode cX10_copy 5 = .ok (.arraylength, 1) := by decide +kernel
theorem dX10_copy_6 : decode cX10_copy 6 = .ok (.aload_n 1, 1) := by decide +kernel
theorem dX10_copy_7 : decode cX10_copy 7 = .ok (.arraylength, 1) := by decide +kernel
theorem dX10_copy_8 : decode cX10_copy 8 = .ok (.invokestatic 330, 3) := by decide +kernel
theorem dX10_copy_11 : decode cX10_copy 11 = .ok (.invokestatic 335, 3) := by decide +kernel
theorem dX10_copy_14 : decode cX10_copy 14 = .ok (.return_, 1) := by decide +kernel
def fX10_copy (q0 z0 : Nat) (q1 z1 : Nat) (s0 : Mem) : Option Res :=
 acp s0 q0 z0 0 q1 z1 0 (mn ((z0 : Nat) : Int) ((z1 : Nat) : Int)) (fun s1 =>
 some (0, s1))
set_option maxRecDepth 100000 in
set_option maxHeartbeats 4000000 in
theorem mX10_copy (l : Launch) (D : va_G) (ad : Nat → Nat) (cA : Nat → ClassId) (q0 z0 : Nat) (hq0 : SH q0 = some (.inl (0, z0))) (hn0 : z0 < 2147483648) (q1 z1 : Nat) (hq1 : SH q1 = some (.inl (0, z1))) (hn1 : z1 < 2147483648) (s0 : Mem) : MCv l D ad cA yX10_copy cX10_copy 2 none rmX10_copy [.inr (.inr q0), .inr (.inr q1)] s0 (fX10_copy q0 z0 q1 z1 s0) := by
  refine MCv_ofE (own := RX10) (ls := [some (.inr (.inr q0)), some (.inr (.inr q1))]) 0 (by decide +kernel) rfl rfl (fun _ => Nat.le_of_ble_eq_true rfl) (fun K hq => ?_)
  unfold fX10_copy
  refine j_aload_n dX10_copy_0 rfl rfl ?_
  refine j_iconst dX10_copy_1 (inr_d rfl) ?_
  refine j_aload_n dX10_copy_2 rfl rfl ?_
  refine j_iconst dX10_copy_3 (inr_d rfl) ?_
  refine j_aload_n dX10_copy_4 rfl rfl ?_
  refine j_alen hq0 hn0 dX10_copy_5 ?_
  refine j_aload_n dX10_copy_6 rfl rfl ?_
  refine j_alen hq1 hn1 dX10_copy_7 ?_
  refine j_min mw_RX10_330 ⟨by decide, Nat.le_of_ble_eq_true rfl⟩ dX10_copy_8 ?_
  refine j_acopy ac_RX10_335 hq0 hq1 ⟨by decide, by decide +kernel⟩ dX10_copy_11 (fun s1 => ?_)
  exact j_vret hq dX10_copy_14
abbrev rmX6_copyFrom : Room := { frames := 2, cells := 0, slots := 0, locals := 81 }
theorem dX6_copyFrom_0 : decode cX6_copyFrom 0 = .ok (.aload_n 0, 1) := by decide +kernel
theorem dX6_copyFrom_1 : decode cX6_copyFrom 1 = .ok (.aload_n 1, 1) := by decide +kernel
theorem dX6_copyFrom_2 : decode cX6_copyFrom 2 = .ok (.getfield 36, 3) := by decide +kernel
theorem dX6_copyFrom_5 : decode cX6_copyFrom 5 = .ok (.putfield 36, 3) := by decide +kernel
theorem dX6_copyFrom_8 : decode cX6_copyFrom 8 = .ok (.aload_n 0, 1) := by decide +kernel
theorem dX6_copyFrom_9 : decode cX6_copyFrom 9 = .ok (.aload_n 1, 1) := by decide +kernel
theorem dX6_copyFrom_10 : decode cX6_copyFrom 10 = .ok (.getfield 40, 3) := by decide +kernel
theorem dX6_copyFrom_13 : decode cX6_copyFrom 13 = .ok (.putfield 40, 3) := by decide +kernel
theorem dX6_copyFrom_16 : decode cX6_copyFrom 16 = .ok (.aload_n 1, 1) := by decide +kernel
theorem dX6_copyFrom_17 : decode cX6_copyFrom 17 = .ok (.getfield 9, 3) := by decide +kernel
theorem dX6_copyFrom_20 : decode cX6_copyFrom 20 = .ok (.aload_n 0, 1) := by decide +kernel
theorem dX6_copyFrom_21 : decode cX6_copyFrom 21 = .ok (.getfield 9, 3) := by decide +kernel
theorem dX6_copyFrom_24 : decode cX6_copyFrom 24 = .ok (.invokestatic 75, 3) := by decide +kernel
theorem dX6_copyFrom_27 : decode cX6_copyFrom 27 = .ok (.aload_n 1, 1) := by decide +kernel
theorem dX6_copyFrom_28 : decode cX6_copyFrom 28 = .ok (.getfield 15, 3) := by decide +kernel
theorem dX6_copyFrom_31 : decode cX6_copyFrom 31 = .ok (.aload_n 0, 1) := by decide +kernel
theorem dX6_copyFrom_32 : decode cX6_copyFrom 32 = .ok (.getfield 15, 3) := by decide +kernel
theorem dX6_copyFrom_35 : decode cX6_copyFrom 35 = .ok (.invokestatic 75, 3) := by decide +kernel
theorem dX6_copyFrom_38 : decode cX6_copyFrom 38 = .ok (.aload_n 1, 1) := by decide +kernel
theorem dX6_copyFrom_39 : decode cX6_copyFrom 39 = .ok (.getfield 18, 3) := by decide +kernel
theorem dX6_copyFrom_42 : decode cX6_copyFrom 42 = .ok (.aload_n 0, 1) := by decide +kernel
theorem dX6_copyFrom_43 : decode cX6_copyFrom 43 = .ok (.getfield 18, 3) := by decide +kernel
theorem dX6_copyFrom_46 : decode cX6_copyFrom 46 = .ok (.invokestatic 75, 3) := by decide +kernel
theorem dX6_copyFrom_49 : decode cX6_copyFrom 49 = .ok (.aload_n 1, 1) := by decide +kernel
theorem dX6_copyFrom_50 : decode cX6_copyFrom 50 = .ok (.getfield 21, 3) := by decide +kernel
theorem dX6_copyFrom_53 : decode cX6_copyFrom 53 = .ok (.aload_n 0, 1) := by decide +kernel
theorem dX6_copyFrom_54 : decode cX6_copyFrom 54 = .ok (.getfield 21, 3) := by decide +kernel
theorem dX6_copyFrom_57 : decode cX6_copyFrom 57 = .ok (.invokestatic 75, 3) := by decide +kernel
theorem dX6_copyFrom_60 : decode cX6_copyFrom 60 = .ok (.aload_n 1, 1) := by decide +kernel
theorem dX6_copyFrom_61 : decode cX6_copyFrom 61 = .ok (.getfield 24, 3) := by decide +kernel
theorem dX6_copyFrom_64 : decode cX6_copyFrom 64 = .ok (.aload_n 0, 1) := by decide +kernel
theorem dX6_copyFrom_65 : decode cX6_copyFrom 65 = .ok (.getfield 24, 3) := by decide +kernel
theorem dX6_copyFrom_68 : decode cX6_copyFrom 68 = .ok (.invokestatic 75, 3) := by decide +kernel
theorem dX6_copyFrom_71 : decode cX6_copyFrom 71 = .ok (.aload_n 1, 1) := by decide +kernel
theorem dX6_copyFrom_72 : decode cX6_copyFrom 72 = .ok (.getfield 27, 3) := by decide +kernel
theorem dX6_copyFrom_75 : decode cX6_copyFrom 75 = .ok (.aload_n 0, 1) := by decide +kernel
theorem dX6_copyFrom_76 : decode cX6_copyFrom 76 = .ok (.getfield 27, 3) := by decide +kernel
theorem dX6_copyFrom_79 : decode cX6_copyFrom 79 = .ok (.invokestatic 75, 3) := by decide +kernel
theorem dX6_copyFrom_82 : decode cX6_copyFrom 82 = .ok (.aload_n 1, 1) := by decide +kernel
theorem dX6_copyFrom_83 : decode cX6_copyFrom 83 = .ok (.getfield 30, 3) := by decide +kernel
theorem dX6_copyFrom_86 : decode cX6_copyFrom 86 = .ok (.aload_n 0, 1) := by decide +kernel
theorem dX6_copyFrom_87 : decode cX6_copyFrom 87 = .ok (.getfield 30, 3) := by decide +kernel
theorem dX6_copyFrom_90 : decode cX6_copyFrom 90 = .ok (.invokestatic 75, 3) := by decide +kernel
theorem dX6_copyFrom_93 : decode cX6_copyFrom 93 = .ok (.aload_n 1, 1) := by decide +kernel
theorem dX6_copyFrom_94 : decode cX6_copyFrom 94 = .ok (.getfield 33, 3) := by decide +kernel
theorem dX6_copyFrom_97 : decode cX6_copyFrom 97 = .ok (.aload_n 0, 1) := by decide +kernel
theorem dX6_copyFrom_98 : decode cX6_copyFrom 98 = .ok (.getfield 33, 3) := by decide +kernel
theorem dX6_copyFrom_101 : decode cX6_copyFrom 101 = .ok (.invokestatic 75, 3) := by decide +kernel
theorem dX6_copyFrom_104 : decode cX6_copyFrom 104 = .ok (.return_, 1) := by decide +kernel
def fX6_copyFrom (t0 : Nat) (t1 : Nat) (s0 : Mem) : Option Res :=
 lt (up s0 t0 0 (s0 t1 0)) (fun s1 =>
 lt (up s1 t0 1 (s1 t1 1)) (fun s2 =>
 bnd (fX10_copy (t1 + 1) 17 (t0 + 1) 17 s2) (fun _ s4 =>
 bnd (fX10_copy (t1 + 2) 48 (t0 + 2) 48 s4) (fun _ s6 =>
 bnd (fX10_copy (t1 + 3) 16 (t0 + 3) 16 s6) (fun _ s8 =>
 bnd (fX10_copy (t1 + 4) 48 (t0 + 4) 48 s8) (fun _ s10 =>
 bnd (fX10_copy (t1 + 5) 16 (t0 + 5) 16 s10) (fun _ s12 =>
 bnd (fX10_copy (t1 + 6) 64 (t0 + 6) 64 s12) (fun _ s14 =>
 bnd (fX10_copy (t1 + 7) 64 (t0 + 7) 64 s14) (fun _ s16 =>
 bnd (fX10_copy (t1 + 8) 64 (t0 + 8) 64 s16) (fun _ s18 =>
 some (0, s18)))))))))))
set_option maxRecDepth 100000 in
set_option maxHeartbeats 4000000 in
theorem mX6_copyFrom (l : Launch) (D : va_G) (ad : Nat → Nat) (cA : Nat → ClassId) (t0 : Nat) (h0 : isSc t0) (t1 : Nat) (h1 : isSc t1) (s0 : Mem) : MCv l D ad cA yX6_copyFrom cX6_copyFrom 2 none rmX6_copyFrom [.inr (.inr t0), .inr (.inr t1)] s0 (fX6_copyFrom t0 t1 s0) := by
  refine MCv_ofE (own := RX6) (ls := [some (.inr (.inr t0)), some (.inr (.inr t1))]) 0 (by decide +kernel) rfl rfl (fun _ => Nat.le_of_ble_eq_true rfl) (fun K hq => ?_)
  unfold fX6_copyFrom
  refine j_aload_n dX6_copyFrom_0 rfl rfl ?_
  refine j_aload_n dX6_copyFrom_1 rfl rfl ?_
  refine j_getI fl_RX6_36 (sc_o h1) rfl dX6_copyFrom_2 ?_
  refine j_putI fp_RX6_36 (sc_o h0) rfl dX6_copyFrom_5 (fun s1 => ?_)
  refine j_aload_n dX6_copyFrom_8 rfl rfl ?_
  refine j_aload_n dX6_copyFrom_9 rfl rfl ?_
  refine j_getI fl_RX6_40 (sc_o h1) rfl dX6_copyFrom_10 ?_
  refine j_putI fp_RX6_40 (sc_o h0) rfl dX6_copyFrom_13 (fun s2 => ?_)
  refine j_aload_n dX6_copyFrom_16 rfl rfl ?_
  refine j_getR fl_RX6_9 (sc_o h1) rfl dX6_copyFrom_17 ?_
  refine j_aload_n dX6_copyFrom_20 rfl rfl ?_
  refine j_getR fl_RX6_9 (sc_o h0) rfl dX6_copyFrom_21 ?_
  refine j_callNv (mX10_copy (kl K) (kD K) (kad K) (kcA K) (t1 + 1) 17 (sc_2 h1) (by decide) (t0 + 1) 17 (sc_2 h0) (by decide) s2) cw_RX6_75 ⟨rfl, rfl, by decide, by decide⟩ rfl rfl (Nat.le_of_ble_eq_true rfl) dX6_copyFrom_24 (fun _ s4 => ?_)
  refine j_aload_n dX6_copyFrom_27 rfl rfl ?_
  refine j_getR fl_RX6_15 (sc_o h1) rfl dX6_copyFrom_28 ?_
  refine j_aload_n dX6_copyFrom_31 rfl rfl ?_
  refine j_getR fl_RX6_15 (sc_o h0) rfl dX6_copyFrom_32 ?_
  refine j_callNv (mX10_copy (kl K) (kD K) (kad K) (kcA K) (t1 + 2) 48 (sc_3 h1) (by decide) (t0 + 2) 48 (sc_3 h0) (by decide) s4) cw_RX6_75 ⟨rfl, rfl, by decide, by decide⟩ rfl rfl (Nat.le_of_ble_eq_true rfl) dX6_copyFrom_35 (fun _ s6 => ?_)
  refine j_aload_n dX6_copyFrom_38 rfl rfl ?_
  refine j_getR fl_RX6_18 (sc_o h1) rfl dX6_copyFrom_39 ?_
  refine j_aload_n dX6_copyFrom_42 rfl rfl ?_
  refine j_getR fl_RX6_18 (sc_o h0) rfl dX6_copyFrom_43 ?_
  refine j_callNv (mX10_copy (kl K) (kD K) (kad K) (kcA K) (t1 + 3) 16 (sc_4 h1) (by decide) (t0 + 3) 16 (sc_4 h0) (by decide) s6) cw_RX6_75 ⟨rfl, rfl, by decide, by decide⟩ rfl rfl (Nat.le_of_ble_eq_true rfl) dX6_copyFrom_46 (fun _ s8 => ?_)
  refine j_aload_n dX6_copyFrom_49 rfl rfl ?_
  refine j_getR fl_RX6_21 (sc_o h1) rfl dX6_copyFrom_50 ?_
  refine j_aload_n dX6_copyFrom_53 rfl rfl ?_
  refine j_getR fl_RX6_21 (sc_o h0) rfl dX6_copyFrom_54 ?_
  refine j_callNv (mX10_copy (kl K) (kD K) (kad K) (kcA K) (t1 + 4) 48 (sc_5 h1) (by decide) (t0 + 4) 48 (sc_5 h0) (by decide) s8) cw_RX6_75 ⟨rfl, rfl, by decide, by decide⟩ rfl rfl (Nat.le_of_ble_eq_true rfl) dX6_copyFrom_57 (fun _ s10 => ?_)
  refine j_aload_n dX6_copyFrom_60 rfl rfl ?_
  refine j_getR fl_RX6_24 (sc_o h1) rfl dX6_copyFrom_61 ?_
  refine j_aload_n dX6_copyFrom_64 rfl rfl ?_
  refine j_getR fl_RX6_24 (sc_o h0) rfl dX6_copyFrom_65 ?_
  refine j_callNv (mX10_copy (kl K) (kD K) (kad K) (kcA K) (t1 + 5) 16 (sc_6 h1) (by decide) (t0 + 5) 16 (sc_6 h0) (by decide) s10) cw_RX6_75 ⟨rfl, rfl, by decide, by decide⟩ rfl rfl (Nat.le_of_ble_eq_true rfl) dX6_copyFrom_68 (fun _ s12 => ?_)
  refine j_aload_n dX6_copyFrom_71 rfl rfl ?_
  refine j_getR fl_RX6_27 (sc_o h1) rfl dX6_copyFrom_72 ?_
  refine j_aload_n dX6_copyFrom_75 rfl rfl ?_
  refine j_getR fl_RX6_27 (sc_o h0) rfl dX6_copyFrom_76 ?_
  refine j_callNv (mX10_copy (kl K) (kD K) (kad K) (kcA K) (t1 + 6) 64 (sc_7 h1) (by decide) (t0 + 6) 64 (sc_7 h0) (by decide) s12) cw_RX6_75 ⟨rfl, rfl, by decide, by decide⟩ rfl rfl (Nat.le_of_ble_eq_true rfl) dX6_copyFrom_79 (fun _ s14 => ?_)
  refine j_aload_n dX6_copyFrom_82 rfl rfl ?_
  refine j_getR fl_RX6_30 (sc_o h1) rfl dX6_copyFrom_83 ?_
  refine j_aload_n dX6_copyFrom_86 rfl rfl ?_
  refine j_getR fl_RX6_30 (sc_o h0) rfl dX6_copyFrom_87 ?_
  refine j_callNv (mX10_copy (kl K) (kD K) (kad K) (kcA K) (t1 + 7) 64 (sc_8 h1) (by decide) (t0 + 7) 64 (sc_8 h0) (by decide) s14) cw_RX6_75 ⟨rfl, rfl, by decide, by decide⟩ rfl rfl (Nat.le_of_ble_eq_true rfl) dX6_copyFrom_90 (fun _ s16 => ?_)
  refine j_aload_n dX6_copyFrom_93 rfl rfl ?_
  refine j_getR fl_RX6_33 (sc_o h1) rfl dX6_copyFrom_94 ?_
  refine j_aload_n dX6_copyFrom_97 rfl rfl ?_
  refine j_getR fl_RX6_33 (sc_o h0) rfl dX6_copyFrom_98 ?_
  refine j_callNv (mX10_copy (kl K) (kD K) (kad K) (kcA K) (t1 + 8) 64 (sc_9 h1) (by decide) (t0 + 8) 64 (sc_9 h0) (by decide) s16) cw_RX6_75 ⟨rfl, rfl, by decide, by decide⟩ rfl rfl (Nat.le_of_ble_eq_true rfl) dX6_copyFrom_101 (fun _ s18 => ?_)
  exact j_vret hq dX6_copyFrom_104
abbrev rmX2_begin : Room := { frames := 3, cells := 0, slots := 0, locals := 102 }
theorem dX2_begin_0 : decode cX2_begin 0 = .ok (.aload_n 0, 1) := by decide +kernel
theorem dX2_begin_1 : decode cX2_begin 1 = .ok (.getfield 12, 3) := by decide +kernel
theorem dX2_begin_4 : decode cX2_begin 4 = .ok (.aload_n 1, 1) := by decide +kernel
theorem dX2_begin_5 : decode cX2_begin 5 = .ok (.invokevirtual 47, 3) := by decide +kernel
theorem dX2_begin_8 : decode cX2_begin 8 = .ok (.aload_n 0, 1) := by decide +kernel
theorem dX2_begin_9 : decode cX2_begin 9 = .ok (.getfield 38, 3) := by decide +kernel
theorem dX2_begin_12 : decode cX2_begin 12 = .ok (.bipush 100, 2) := by decide +kernel
theorem dX2_begin_14 : decode cX2_begin 14 = .ok (.invokestatic 41, 3) := by decide +kernel
theorem dX2_begin_17 : decode cX2_begin 17 = .ok (.return_, 1) := by decide +kernel
def fX2_begin (t0 : Nat) (t1 : Nat) (s0 : Mem) : Option Res :=
 bnd (fX6_copyFrom (t0 + 1) t1 s0) (fun _ s2 =>
 bnd (fJ7_fill_53178 (t0 + 18) 15 100 s2) (fun _ s4 =>
 some (0, s4)))
set_option maxRecDepth 100000 in
set_option maxHeartbeats 4000000 in
theorem mX2_begin (l : Launch) (D : va_G) (ad : Nat → Nat) (cA : Nat → ClassId) (t0 : Nat) (h0 : isJo t0) (t1 : Nat) (h1 : isSc t1) (s0 : Mem) : MCv l D ad cA yX2_begin cX2_begin 2 none rmX2_begin [.inr (.inr t0), .inr (.inr t1)] s0 (fX2_begin t0 t1 s0) := by
  refine MCv_ofE (own := RX2) (ls := [some (.inr (.inr t0)), some (.inr (.inr t1))]) 0 (by decide +kernel) rfl rfl (fun _ => Nat.le_of_ble_eq_true rfl) (fun K hq => ?_)
  unfold fX2_begin
  refine j_aload_n dX2_begin_0 rfl rfl ?_
  refine j_getR fl_RX2_12 (jo_o h0) rfl dX2_begin_1 ?_
  refine j_aload_n dX2_begin_4 rfl rfl ?_
  refine j_callVv (mX6_copyFrom (kl K) (kD K) (kad K) (kcA K) (t0 + 1) (jo_0 h0) t1 h1 s0) cw_RX2_47 (sc_o (jo_0 h0)) rfl ⟨rfl, rfl, by decide, by decide⟩ rfl rfl (Nat.le_of_ble_eq_true rfl) dX2_begin_5 (fun _ s2 => ?_)
  refine j_aload_n dX2_begin_8 rfl rfl ?_
  refine j_getR fl_RX2_38 (jo_o h0) rfl dX2_begin_9 ?_
  refine j_bipush (v := 100) dX2_begin_12 (by decide +kernel) (inr_d rfl) ?_
  refine j_callSv (mJ7_fill_53178 (kl K) (kD K) (kad K) (kcA K) (t0 + 18) 15 (jo_6 h0) (by decide) 100 s2) cw_RX2_41 ⟨rfl, rfl, by decide, by decide⟩ rfl rfl (Nat.le_of_ble_eq_true rfl) dX2_begin_14 (fun _ s4 => ?_)
  exact j_vret hq dX2_begin_17
abbrev rmX6_shotAt : Room := { frames := 0, cells := 0, slots := 0, locals := 0 }
theorem dX6_shotAt_0 : decode cX6_shotAt 0 = .ok (.iconst 0, 1) := by decide +kernel
theorem dX6_shotAt_1 : decode cX6_shotAt 1 = .ok (.istore_n 2, 1) := by decide +kernel
theorem dX6_shotAt_2 : decode cX6_shotAt 2 = .ok (.iload_n 2, 1) := by decide +kernel
theorem dX6_shotAt_3 : decode cX6_shotAt 3 = .ok (.aload_n 0, 1) := by decide +kernel
theorem dX6_shotAt_4 : decode cX6_shotAt 4 = .ok (.getfield 36, 3) := by decide +kernel
theorem dX6_shotAt_7 : decode cX6_shotAt 7 = .ok (.iconst 1, 1) := by decide +kernel
theorem dX6_shotAt_8 : decode cX6_shotAt 8 = .ok (.isub, 1) := by decide +kernel
theorem dX6_shotAt_9 : decode cX6_shotAt 9 = .ok (.if_icmp .ge 21, 3) := by decide +kernel
theorem dX6_shotAt_12 : decode cX6_shotAt 12 = .ok (.iload_n 1, 1) := by decide +kernel
theorem dX6_shotAt_13 : decode cX6_shotAt 13 = .ok (.aload_n 0, 1) := by decide +kernel
theorem dX6_shotAt_14 : decode cX6_shotAt 14 = .ok (.getfield 9, 3) := by decide +kernel
theorem dX6_shotAt_17 : decode cX6_shotAt 17 = .ok (.iload_n 2, 1) := by decide +kernel
theorem dX6_shotAt_18 : decode cX6_shotAt 18 = .ok (.iconst 1, 1) := by decide +kernel
theorem dX6_shotAt_19 : decode cX6_shotAt 19 = .ok (.iadd, 1) := by decide +kernel
theorem dX6_shotAt_20 : decode cX6_shotAt 20 = .ok (.iaload, 1) := by decide +kernel
theorem dX6_shotAt_21 : decode cX6_shotAt 21 = .ok (.if_icmp .lt 9, 3) := by decide +kernel
theorem dX6_shotAt_24 : decode cX6_shotAt 24 = .ok (.iinc 2 1, 3) := by decide +kernel
theorem dX6_shotAt_27 : decode cX6_shotAt 27 = .ok (.goto (-25), 3) := by decide +kernel
theorem dX6_shotAt_30 : decode cX6_shotAt 30 = .ok (.iload_n 2, 1) := by decide +kernel
theorem dX6_shotAt_31 : decode cX6_shotAt 31 = .ok (.ireturn, 1) := by decide +kernel
def LX6_shotAt_2 (t0 : Nat) (c1 : Int) (k30 : Int → Mem → Option Res) : Nat → Int → Mem → Option Res
  | 0 => fun _ _ => none
  | n + 1 => fun x2 s => (if wr ((s t0 0) - 1) ≤ x2 then
 k30 x2 s
 else
 rd (s (t0 + 1)) (wr (x2 + 1)) 17 (fun v1 =>
 (if c1 < v1 then
 k30 x2 s
 else
 LX6_shotAt_2 t0 c1 k30 n (wr (x2 + 1)) s)))
def fX6_shotAt (t0 : Nat) (a1 : Int) (s0 : Mem) : Option Res :=
 LX6_shotAt_2 t0 a1 (fun y3 s2 =>
 some (y3, s2)) FU 0 s0
set_option maxRecDepth 100000 in
set_option maxHeartbeats 4000000 in
theorem jLX6_shotAt_2 {K : KT} (hq : KI K (some .int)) (t0 : Nat) (h0 : isSc t0) (c1 : Int) (k30 : Int → Mem → Option Res) (hk30 : ∀ (y2 : Int) (s : Mem), J K rmX6_shotAt cX6_shotAt RX6 3 30 [none, none, some (.inl y2)] [] s (k30 y2 s)) : ∀ (n : Nat) (x2 : Int) (s : Mem), J K rmX6_shotAt cX6_shotAt RX6 3 2 [some (.inr (.inr t0)), some (.inl c1), some (.inl x2)] [] s (LX6_shotAt_2 t0 c1 k30 n x2 s) := by
  intro n
  induction n with
  | zero => intros; exact J_none
  | succ n ih =>
    intro x2 s
    show J K _ _ _ _ _ _ _ _ (LX6_shotAt_2 t0 c1 k30 (n + 1) x2 s)
    simp only [LX6_shotAt_2]
    refine j_iload_n dX6_shotAt_2 rfl rfl ?_
    refine j_aload_n dX6_shotAt_3 rfl rfl ?_
    refine j_getI fl_RX6_36 (sc_o h0) rfl dX6_shotAt_4 ?_
    refine j_iconst dX6_shotAt_7 (inr_d rfl) ?_
    refine j_isub dX6_shotAt_8 ?_
    refine j_icmp_ge (tgt := 30) dX6_shotAt_9 rfl ?_ ?_
    · exact j_msk [false, false, true] (hk30 _ _)
    · refine j_iload_n dX6_shotAt_12 rfl rfl ?_
      refine j_aload_n dX6_shotAt_13 rfl rfl ?_
      refine j_getR fl_RX6_9 (sc_o h0) rfl dX6_shotAt_14 ?_
      refine j_iload_n dX6_shotAt_17 rfl rfl ?_
      refine j_iconst dX6_shotAt_18 (inr_d rfl) ?_
      refine j_iadd dX6_shotAt_19 ?_
      refine j_iald (sc_2 h0) dX6_shotAt_20 (fun v1 => ?_)
      refine j_icmp_lt (tgt := 30) dX6_shotAt_21 rfl ?_ ?_
      · exact j_msk [false, false, true] (hk30 _ _)
      · refine j_iincE (ls2 := [some (.inr (.inr t0)), some (.inl c1), some (.inl (wr (x2 + 1)))]) dX6_shotAt_24 rfl (by decide) rfl rfl ?_
        refine j_goto (tgt := 2) dX6_shotAt_27 rfl ?_
        exact j_msk [true, true, true] (ih _ _)
set_option maxRecDepth 100000 in
set_option maxHeartbeats 4000000 in
theorem mX6_shotAt (l : Launch) (D : va_G) (ad : Nat → Nat) (cA : Nat → ClassId) (t0 : Nat) (h0 : isSc t0) (a1 : Int) (s0 : Mem) : MCi l D ad cA yX6_shotAt cX6_shotAt 3 (some .int) rmX6_shotAt [.inr (.inr t0), .inl a1] s0 (fX6_shotAt t0 a1 s0) := by
  refine MCi_ofE (own := RX6) (ls := [some (.inr (.inr t0)), some (.inl a1), none]) 1 (by decide +kernel) rfl rfl (fun _ => Nat.le_of_ble_eq_true rfl) (fun K hq => ?_)
  unfold fX6_shotAt
  refine j_iconst dX6_shotAt_0 (inr_d rfl) ?_
  refine j_istore_nE (ls2 := [some (.inr (.inr t0)), some (.inl a1), some (.inl 0)]) dX6_shotAt_1 rfl (by decide) rfl rfl ?_
  refine j_msk [true, true, true] (jLX6_shotAt_2 hq t0 h0 _ _ (fun y3 s2 => ?_) _ _ _)
  refine j_iload_n dX6_shotAt_30 rfl rfl ?_
  exact j_iret hq dX6_shotAt_31
