abbrev rmzJ7_fill_53178 : Room := { frames := 0, cells := 0, slots := 0, locals := 0 }
def LzJ7_fill_53178_5 (q0 z0 : Nat) (c1 : Int) (c3 : Int) (k20 : Mem → Option Res) : Nat → Int → Mem → Option Res
  | 0 => fun _ _ => none
  | n + 1 => fun x2 s => (if c3 ≤ x2 then
 k20 s
 else
 ST s q0 x2 z0 c1 (fun s1 =>
 LzJ7_fill_53178_5 q0 z0 c1 c3 k20 n (wr (x2 + 1)) s1))
def fzJ7_fill_53178 (q0 z0 : Nat) (a1 : Int) (s0 : Mem) : Option Res :=
 LzJ7_fill_53178_5 q0 z0 a1 ((z0 : Nat) : Int) (fun s2 =>
 some (0, s2)) FU 0 s0
set_option maxRecDepth 100000 in
set_option maxHeartbeats 4000000 in
theorem jLzJ7_fill_53178_5 {K : KZ} {Z : List ZS} (hq : KZr K Z (0, 0)) (q0 z0 : Nat) (hq0 : Z[q0]? = some (.inl (0, z0))) (hn0 : z0 < 2147483648) (c1 : Int) (c3 : Int) (k20 : Mem → Option Res) (hk20 : ∀ (s : Mem), JZ K rmzJ7_fill_53178 cJ7_fill_53178 RJ7 4 Z (0, 0) 20 [none, none, none, none] [] s (k20 s)) : ∀ (n : Nat) (x2 : Int) (s : Mem), JZ K rmzJ7_fill_53178 cJ7_fill_53178 RJ7 4 Z (0, 0) 5 [some (.inr (.inr q0)), some (.inl c1), some (.inl x2), some (.inl c3)] [] s (LzJ7_fill_53178_5 q0 z0 c1 c3 k20 n x2 s) := by
  intro n
  induction n with
  | zero => intros; exact JZ_none
  | succ n ih =>
    intro x2 s
    show JZ K _ _ _ _ _ _ _ _ _ _ (LzJ7_fill_53178_5 q0 z0 c1 c3 k20 (n + 1) x2 s)
    simp only [LzJ7_fill_53178_5]
    refine z_iload_n dJ7_fill_53178_5 rfl rfl ?_
    refine z_iload_n dJ7_fill_53178_6 rfl rfl ?_
    refine z_icmp_ge (tgt := 20) dJ7_fill_53178_7 rfl ?_ ?_
    · exact z_msk [false, false, false, false] (hk20 _)
    · refine z_aload_n dJ7_fill_53178_10 rfl rfl ?_
      refine z_iload_n dJ7_fill_53178_11 rfl rfl ?_
      refine z_iload_n dJ7_fill_53178_12 rfl rfl ?_
      refine z_iast (n := z0) hq0 dJ7_fill_53178_13 (fun s1 => ?_)
      refine z_iinc (ls2 := [some (.inr (.inr q0)), some (.inl c1), some (.inl (wr (x2 + 1))), some (.inl c3)]) dJ7_fill_53178_14 rfl (by decide) rfl rfl ?_
      refine z_goto (tgt := 5) dJ7_fill_53178_17 rfl ?_
      exact z_msk [true, true, true, true] (ih _ _)
set_option maxRecDepth 100000 in
set_option maxHeartbeats 4000000 in
theorem mzJ7_fill_53178 (l : Launch) (D : va_G) (cA : Nat → ClassId) (Z : List ZS) (hz9 : Z.length < 900) (hzk : Zok Z = true) (q0 z0 : Nat) (hq0 : Z[q0]? = some (.inl (0, z0))) (hn0 : z0 < 2147483648) (a1 : Int) (s0 : Mem) : MKZ l D cA yJ7_fill_53178 cJ7_fill_53178 4 rmzJ7_fill_53178 (0, 0) Z Z [.inr (.inr q0), .inl a1] s0 (fzJ7_fill_53178 q0 z0 a1 s0) := by
  refine MKZ_ofF (own := RJ7) (ls := [some (.inr (.inr q0)), some (.inl a1), none, none]) 2 (by decide +kernel) rfl rfl (fun _ => Nat.le_of_ble_eq_true rfl) hz9 hzk (fun K _ hq => ?_)
  unfold fzJ7_fill_53178
  refine z_iconst dJ7_fill_53178_0 (inr_d rfl) ?_
  refine z_istore_n (ls2 := [some (.inr (.inr q0)), some (.inl a1), some (.inl 0), none]) dJ7_fill_53178_1 rfl (by decide) rfl rfl ?_
  refine z_aload_n dJ7_fill_53178_2 rfl rfl ?_
  refine z_alen (n := z0) hq0 hn0 dJ7_fill_53178_3 ?_
  refine z_istore_n (ls2 := [some (.inr (.inr q0)), some (.inl a1), some (.inl 0), some (.inl ((z0 : Nat) : Int))]) dJ7_fill_53178_4 rfl (by decide) rfl rfl ?_
  refine z_msk [true, true, true, true] (jLzJ7_fill_53178_5 hq q0 z0 hq0 hn0 _ _ _ (fun s2 => ?_) _ _ _)
  exact z_vret hq dJ7_fill_53178_20
abbrev rmX9_init_1 : Room := { frames := 1, cells := 5, slots := 90, locals := 20 }
theorem dX9_init_0 : decode cX9_init 0 = .ok (.aload_n 0, 1) := by decide +kernel
theorem dX9_init_1 : decode cX9_init 1 = .ok (.invokespecial 5, 3) := by decide +kernel
theorem dX9_init_4 : decode cX9_init 4 = .ok (.aload_n 0, 1) := by decide +kernel
theorem dX9_init_5 : decode cX9_init 5 = .ok (.bipush 81, 2) := by decide +kernel
theorem dX9_init_7 : decode cX9_init 7 = .ok (.newarray .int, 2) := by decide +kernel
theorem dX9_init_9 : decode cX9_init 9 = .ok (.putfield 11, 3) := by decide +kernel
theorem dX9_init_12 : decode cX9_init 12 = .ok (.aload_n 0, 1) := by decide +kernel
theorem dX9_init_13 : decode cX9_init 13 = .ok (.iconst 2, 1) := by decide +kernel
theorem dX9_init_14 : decode cX9_init 14 = .ok (.newarray .int, 2) := by decide +kernel
theorem dX9_init_16 : decode cX9_init 16 = .ok (.dup, 1) := by decide +kernel
theorem dX9_init_17 : decode cX9_init 17 = .ok (.iconst 0, 1) := by decide +kernel
theorem dX9_init_18 : decode cX9_init 18 = .ok (.sipush 800, 3) := by decide +kernel
theorem dX9_init_21 : decode cX9_init 21 = .ok (.iastore, 1) := by decide +kernel
theorem dX9_init_22 : decode cX9_init 22 = .ok (.dup, 1) := by decide +kernel
theorem dX9_init_23 : decode cX9_init 23 = .ok (.iconst 1, 1) := by decide +kernel
theorem dX9_init_24 : decode cX9_init 24 = .ok (.sipush 800, 3) := by decide +kernel
theorem dX9_init_27 : decode cX9_init 27 = .ok (.iastore, 1) := by decide +kernel
theorem dX9_init_28 : decode cX9_init 28 = .ok (.putfield 15, 3) := by decide +kernel
theorem dX9_init_31 : decode cX9_init 31 = .ok (.aload_n 0, 1) := by decide +kernel
theorem dX9_init_32 : decode cX9_init 32 = .ok (.iconst 2, 1) := by decide +kernel
theorem dX9_init_33 : decode cX9_init 33 = .ok (.newarray .int, 2) := by decide +kernel
theorem dX9_init_35 : decode cX9_init 35 = .ok (.dup, 1) := by decide +kernel
theorem dX9_init_36 : decode cX9_init 36 = .ok (.iconst 0, 1) := by decide +kernel
theorem dX9_init_37 : decode cX9_init 37 = .ok (.iconst 5, 1) := by decide +kernel
theorem dX9_init_38 : decode cX9_init 38 = .ok (.iastore, 1) := by decide +kernel
theorem dX9_init_39 : decode cX9_init 39 = .ok (.dup, 1) := by decide +kernel
theorem dX9_init_40 : decode cX9_init 40 = .ok (.iconst 1, 1) := by decide +kernel
theorem dX9_init_41 : decode cX9_init 41 = .ok (.iconst 5, 1) := by decide +kernel
theorem dX9_init_42 : decode cX9_init 42 = .ok (.iastore, 1) := by decide +kernel
theorem dX9_init_43 : decode cX9_init 43 = .ok (.putfield 18, 3) := by decide +kernel
theorem dX9_init_46 : decode cX9_init 46 = .ok (.aload_n 0, 1) := by decide +kernel
theorem dX9_init_47 : decode cX9_init 47 = .ok (.iconst 2, 1) := by decide +kernel
theorem dX9_init_48 : decode cX9_init 48 = .ok (.newarray .int, 2) := by decide +kernel
theorem dX9_init_50 : decode cX9_init 50 = .ok (.dup, 1) := by decide +kernel
theorem dX9_init_51 : decode cX9_init 51 = .ok (.iconst 0, 1) := by decide +kernel
theorem dX9_init_52 : decode cX9_init 52 = .ok (.iconst 0, 1) := by decide +kernel
theorem dX9_init_53 : decode cX9_init 53 = .ok (.iastore, 1) := by decide +kernel
theorem dX9_init_54 : decode cX9_init 54 = .ok (.dup, 1) := by decide +kernel
theorem dX9_init_55 : decode cX9_init 55 = .ok (.iconst 1, 1) := by decide +kernel
theorem dX9_init_56 : decode cX9_init 56 = .ok (.iconst 0, 1) := by decide +kernel
theorem dX9_init_57 : decode cX9_init 57 = .ok (.iastore, 1) := by decide +kernel
theorem dX9_init_58 : decode cX9_init 58 = .ok (.putfield 21, 3) := by decide +kernel
theorem dX9_init_61 : decode cX9_init 61 = .ok (.aload_n 0, 1) := by decide +kernel
theorem dX9_init_62 : decode cX9_init 62 = .ok (.iconst 3, 1) := by decide +kernel
theorem dX9_init_63 : decode cX9_init 63 = .ok (.newarray .int, 2) := by decide +kernel
theorem dX9_init_65 : decode cX9_init 65 = .ok (.dup, 1) := by decide +kernel
theorem dX9_init_66 : decode cX9_init 66 = .ok (.iconst 0, 1) := by decide +kernel
theorem dX9_init_67 : decode cX9_init 67 = .ok (.iconst 0, 1) := by decide +kernel
theorem dX9_init_68 : decode cX9_init 68 = .ok (.iastore, 1) := by decide +kernel
theorem dX9_init_69 : decode cX9_init 69 = .ok (.dup, 1) := by decide +kernel
theorem dX9_init_70 : decode cX9_init 70 = .ok (.iconst 1, 1) := by decide +kernel
theorem dX9_init_71 : decode cX9_init 71 = .ok (.iconst 0, 1) := by decide +kernel
theorem dX9_init_72 : decode cX9_init 72 = .ok (.iastore, 1) := by decide +kernel
theorem dX9_init_73 : decode cX9_init 73 = .ok (.dup, 1) := by decide +kernel
theorem dX9_init_74 : decode cX9_init 74 = .ok (.iconst 2, 1) := by decide +kernel
theorem dX9_init_75 : decode cX9_init 75 = .ok (.iconst 0, 1) := by decide +kernel
theorem dX9_init_76 : decode cX9_init 76 = .ok (.iastore, 1) := by decide +kernel
theorem dX9_init_77 : decode cX9_init 77 = .ok (.putfield 24, 3) := by decide +kernel
theorem dX9_init_80 : decode cX9_init 80 = .ok (.iconst 0, 1) := by decide +kernel
theorem dX9_init_81 : decode cX9_init 81 = .ok (.istore_n 1, 1) := by decide +kernel
theorem dX9_init_82 : decode cX9_init 82 = .ok (.iload_n 1, 1) := by decide +kernel
theorem dX9_init_83 : decode cX9_init 83 = .ok (.aload_n 0, 1) := by decide +kernel
theorem dX9_init_84 : decode cX9_init 84 = .ok (.getfield 11, 3) := by decide +kernel
theorem dX9_init_87 : decode cX9_init 87 = .ok (.arraylength, 1) := by decide +kernel
theorem dX9_init_88 : decode cX9_init 88 = .ok (.if_icmp .ge 25, 3) := by decide +kernel
theorem dX9_init_91 : decode cX9_init 91 = .ok (.aload_n 0, 1) := by decide +kernel
theorem dX9_init_92 : decode cX9_init 92 = .ok (.getfield 11, 3) := by decide +kernel
theorem dX9_init_95 : decode cX9_init 95 = .ok (.iload_n 1, 1) := by decide +kernel
theorem dX9_init_96 : decode cX9_init 96 = .ok (.getstatic 27, 3) := by decide +kernel
theorem dX9_init_99 : decode cX9_init 99 = .ok (.iload_n 1, 1) := by decide +kernel
theorem dX9_init_100 : decode cX9_init 100 = .ok (.getstatic 27, 3) := by decide +kernel
theorem dX9_init_103 : decode cX9_init 103 = .ok (.arraylength, 1) := by decide +kernel
theorem dX9_init_104 : decode cX9_init 104 = .ok (.irem, 1) := by decide +kernel
theorem dX9_init_105 : decode cX9_init 105 = .ok (.iaload, 1) := by decide +kernel
theorem dX9_init_106 : decode cX9_init 106 = .ok (.iastore, 1) := by decide +kernel
theorem dX9_init_107 : decode cX9_init 107 = .ok (.iinc 1 1, 3) := by decide +kernel
theorem dX9_init_110 : decode cX9_init 110 = .ok (.goto (-28), 3) := by decide +kernel
theorem dX9_init_113 : decode cX9_init 113 = .ok (.return_, 1) := by decide +kernel
def LX9_init_1_82 (k113 : Mem → Option Res) : Nat → Int → Mem → Option Res
  | 0 => fun _ _ => none
  | n + 1 => fun x1 s => (if ((81 : Nat) : Int) ≤ x1 then
 k113 s
 else
 rd rtf (Int.tmod x1 9) 9 (fun v15 =>
 ST s 2 x1 81 v15 (fun s16 =>
 LX9_init_1_82 k113 n (wr (x1 + 1)) s16)))
def fX9_init_1 (s0 : Mem) : Option Res :=
 lt (zm s0 2) (fun s1 =>
 lt (zm s1 3) (fun s2 =>
 ST s2 3 0 2 800 (fun s3 =>
 ST s3 3 1 2 800 (fun s4 =>
 lt (zm s4 4) (fun s5 =>
 ST s5 4 0 2 5 (fun s6 =>
 ST s6 4 1 2 5 (fun s7 =>
 lt (zm s7 5) (fun s8 =>
 ST s8 5 0 2 0 (fun s9 =>
 ST s9 5 1 2 0 (fun s10 =>
 lt (zm s10 6) (fun s11 =>
 ST s11 6 0 3 0 (fun s12 =>
 ST s12 6 1 3 0 (fun s13 =>
 ST s13 6 2 3 0 (fun s14 =>
 LX9_init_1_82 (fun s17 =>
 some (0, s17)) FU 0 s14))))))))))))))
set_option maxRecDepth 100000 in
set_option maxHeartbeats 4000000 in
theorem jLX9_init_1_82 {K : KZ}  (k113 : Mem → Option Res) (hk113 : ∀ (s : Mem), JZ K rmX9_init_1 cX9_init RX9 2 (ZC 7 [1, 0]) (5, 90) 113 [none, none] [] s (k113 s)) : ∀ (n : Nat) (x1 : Int) (s : Mem), JZ K rmX9_init_1 cX9_init RX9 2 (ZC 7 [1, 0]) (5, 90) 82 [some (.inr (.inr 1)), some (.inl x1)] [] s (LX9_init_1_82 k113 n x1 s) := by
  intro n
  induction n with
  | zero => intros; exact JZ_none
  | succ n ih =>
    intro x1 s
    show JZ K _ _ _ _ _ _ _ _ _ _ (LX9_init_1_82 k113 (n + 1) x1 s)
    simp only [LX9_init_1_82]
    refine z_iload_n dX9_init_82 rfl rfl ?_
    refine z_aload_n dX9_init_83 rfl rfl ?_
    refine z_getR (fs := [some (some 2), some (some 3), some (some 4), some (some 5), some (some 6)]) fl_RX9_11 (by decide +kernel) rfl dX9_init_84 ?_
    refine z_alen (n := 81) (by decide +kernel) (by decide) dX9_init_87 ?_
    refine z_icmp_ge (tgt := 113) dX9_init_88 rfl ?_ ?_
    · exact z_msk [false, false] (hk113 _)
    · refine z_aload_n dX9_init_91 rfl rfl ?_
      refine z_getR (fs := [some (some 2), some (some 3), some (some 4), some (some 5), some (some 6)]) fl_RX9_11 (by decide +kernel) rfl dX9_init_92 ?_
      refine z_iload_n dX9_init_95 rfl rfl ?_
      refine z_gsT gst_RX9_27 dX9_init_96 ?_
      refine z_iload_n dX9_init_99 rfl rfl ?_
      refine z_gsT gst_RX9_27 dX9_init_100 ?_
      refine z_slT dX9_init_103 ?_
      refine z_irem_p dX9_init_104 (by decide) ?_
      refine z_saT dX9_init_105 (fun v15 => ?_)
      refine z_iast (n := 81) (by decide +kernel) dX9_init_106 (fun s16 => ?_)
      refine z_iinc (ls2 := [some (.inr (.inr 1)), some (.inl (wr (x1 + 1)))]) dX9_init_107 rfl (by decide) rfl rfl ?_
      refine z_goto (tgt := 82) dX9_init_110 rfl ?_
      exact z_msk [true, true] (ih _ _)
set_option maxRecDepth 100000 in
set_option maxHeartbeats 4000000 in
theorem mX9_init_1 (l : Launch) (D : va_G) (cA : Nat → ClassId) (s0 : Mem) : MKZ l D cA yX9_init cX9_init 2 rmX9_init_1 (5, 90) (ZC 2 [1, 0]) (ZC 7 [1, 0]) [.inr (.inr 1)] s0 (fX9_init_1 s0) := by
  refine MKZ_of (own := RX9) (ls := [some (.inr (.inr 1)), none]) 1 (by decide +kernel) rfl rfl (fun _ => Nat.le_of_ble_eq_true rfl) (by decide +kernel) (by decide +kernel) (fun K hin hq => ?_)
  have hin := hin rfl
  unfold fX9_init_1
  refine z_aload_n dX9_init_0 rfl rfl ?_
  refine z_objInit oi_RX9_5 ⟨by decide, by decide⟩ (Nat.le_of_ble_eq_true rfl) dX9_init_1 ?_
  refine z_aload_n dX9_init_4 rfl rfl ?_
  refine z_bipush (v := 81) dX9_init_5 (by decide +kernel) (inr_d rfl) ?_
  refine z_newa (kd := 0) (N := 81) (Z2 := (ZC 3 [2, 1, 0])) (cs2 := (1, 81)) acl_0 rfl rfl (fun _ _ => rfl) rfl rfl (by decide) (by decide +kernel) (by decide +kernel) (by decide +kernel) (by decide +kernel) (by decide) rfl ⟨by decide, by decide⟩ dX9_init_7 (fun s1 => ?_)
  refine z_putR (fs := [some none, some none, some none, some none, some none]) (Z2 := (ZC 3 [1, 0])) hin fpr_RX9_11 (by decide +kernel) (by decide) (by decide +kernel) (by decide +kernel) dX9_init_9 ?_
  refine z_aload_n dX9_init_12 rfl rfl ?_
  refine z_iconst dX9_init_13 (inr_d rfl) ?_
  refine z_newa (kd := 0) (N := 2) (Z2 := (ZC 4 [3, 1, 0])) (cs2 := (2, 83)) acl_0 rfl rfl (fun _ _ => rfl) rfl rfl (by decide) (by decide +kernel) (by decide +kernel) (by decide +kernel) (by decide +kernel) (by decide) rfl ⟨by decide, by decide⟩ dX9_init_14 (fun s2 => ?_)
  refine z_dup dX9_init_16 ?_
  refine z_iconst dX9_init_17 (inr_d rfl) ?_
  refine z_sipush (v := 800) dX9_init_18 (by decide +kernel) (inr_d rfl) ?_
  refine z_iast (n := 2) (by decide +kernel) dX9_init_21 (fun s3 => ?_)
  refine z_dup dX9_init_22 ?_
  refine z_iconst dX9_init_23 (inr_d rfl) ?_
  refine z_sipush (v := 800) dX9_init_24 (by decide +kernel) (inr_d rfl) ?_
  refine z_iast (n := 2) (by decide +kernel) dX9_init_27 (fun s4 => ?_)
  refine z_putR (fs := [some (some 2), some none, some none, some none, some none]) (Z2 := (ZC 4 [1, 0])) hin fpr_RX9_15 (by decide +kernel) (by decide) (by decide +kernel) (by decide +kernel) dX9_init_28 ?_
  refine z_aload_n dX9_init_31 rfl rfl ?_
  refine z_iconst dX9_init_32 (inr_d rfl) ?_
  refine z_newa (kd := 0) (N := 2) (Z2 := (ZC 5 [4, 1, 0])) (cs2 := (3, 85)) acl_0 rfl rfl (fun _ _ => rfl) rfl rfl (by decide) (by decide +kernel) (by decide +kernel) (by decide +kernel) (by decide +kernel) (by decide) rfl ⟨by decide, by decide⟩ dX9_init_33 (fun s5 => ?_)
  refine z_dup dX9_init_35 ?_
  refine z_iconst dX9_init_36 (inr_d rfl) ?_
  refine z_iconst dX9_init_37 (inr_d rfl) ?_
  refine z_iast (n := 2) (by decide +kernel) dX9_init_38 (fun s6 => ?_)
  refine z_dup dX9_init_39 ?_
  refine z_iconst dX9_init_40 (inr_d rfl) ?_
  refine z_iconst dX9_init_41 (inr_d rfl) ?_
  refine z_iast (n := 2) (by decide +kernel) dX9_init_42 (fun s7 => ?_)
  refine z_putR (fs := [some (some 2), some (some 3), some none, some none, some none]) (Z2 := (ZC 5 [1, 0])) hin fpr_RX9_18 (by decide +kernel) (by decide) (by decide +kernel) (by decide +kernel) dX9_init_43 ?_
  refine z_aload_n dX9_init_46 rfl rfl ?_
  refine z_iconst dX9_init_47 (inr_d rfl) ?_
  refine z_newa (kd := 0) (N := 2) (Z2 := (ZC 6 [5, 1, 0])) (cs2 := (4, 87)) acl_0 rfl rfl (fun _ _ => rfl) rfl rfl (by decide) (by decide +kernel) (by decide +kernel) (by decide +kernel) (by decide +kernel) (by decide) rfl ⟨by decide, by decide⟩ dX9_init_48 (fun s8 => ?_)
  refine z_dup dX9_init_50 ?_
  refine z_iconst dX9_init_51 (inr_d rfl) ?_
  refine z_iconst dX9_init_52 (inr_d rfl) ?_
  refine z_iast (n := 2) (by decide +kernel) dX9_init_53 (fun s9 => ?_)
  refine z_dup dX9_init_54 ?_
  refine z_iconst dX9_init_55 (inr_d rfl) ?_
  refine z_iconst dX9_init_56 (inr_d rfl) ?_
  refine z_iast (n := 2) (by decide +kernel) dX9_init_57 (fun s10 => ?_)
  refine z_putR (fs := [some (some 2), some (some 3), some (some 4), some none, some none]) (Z2 := (ZC 6 [1, 0])) hin fpr_RX9_21 (by decide +kernel) (by decide) (by decide +kernel) (by decide +kernel) dX9_init_58 ?_
  refine z_aload_n dX9_init_61 rfl rfl ?_
  refine z_iconst dX9_init_62 (inr_d rfl) ?_
  refine z_newa (kd := 0) (N := 3) (Z2 := (ZC 7 [6, 1, 0])) (cs2 := (5, 90)) acl_0 rfl rfl (fun _ _ => rfl) rfl rfl (by decide) (by decide +kernel) (by decide +kernel) (by decide +kernel) (by decide +kernel) (by decide) rfl ⟨by decide, by decide⟩ dX9_init_63 (fun s11 => ?_)
  refine z_dup dX9_init_65 ?_
  refine z_iconst dX9_init_66 (inr_d rfl) ?_
  refine z_iconst dX9_init_67 (inr_d rfl) ?_
  refine z_iast (n := 3) (by decide +kernel) dX9_init_68 (fun s12 => ?_)
  refine z_dup dX9_init_69 ?_
  refine z_iconst dX9_init_70 (inr_d rfl) ?_
  refine z_iconst dX9_init_71 (inr_d rfl) ?_
  refine z_iast (n := 3) (by decide +kernel) dX9_init_72 (fun s13 => ?_)
  refine z_dup dX9_init_73 ?_
  refine z_iconst dX9_init_74 (inr_d rfl) ?_
  refine z_iconst dX9_init_75 (inr_d rfl) ?_
  refine z_iast (n := 3) (by decide +kernel) dX9_init_76 (fun s14 => ?_)
  refine z_putR (fs := [some (some 2), some (some 3), some (some 4), some (some 5), some none]) (Z2 := (ZC 7 [1, 0])) hin fpr_RX9_24 (by decide +kernel) (by decide) (by decide +kernel) (by decide +kernel) dX9_init_77 ?_
  refine z_iconst dX9_init_80 (inr_d rfl) ?_
  refine z_istore_n (ls2 := [some (.inr (.inr 1)), some (.inl 0)]) dX9_init_81 rfl (by decide) rfl rfl ?_
  refine z_msk [true, true] (jLX9_init_1_82 _ (fun s17 => ?_) _ _ _)
  exact z_vret hq dX9_init_113
abbrev rmX8_init_8 : Room := { frames := 1, cells := 2, slots := 405, locals := 20 }
theorem dX8_init_0 : decode cX8_init 0 = .ok (.aload_n 0, 1) := by decide +kernel
theorem dX8_init_1 : decode cX8_init 1 = .ok (.invokespecial 3, 3) := by decide +kernel
theorem dX8_init_4 : decode cX8_init 4 = .ok (.aload_n 0, 1) := by decide +kernel
theorem dX8_init_5 : decode cX8_init 5 = .ok (.sipush 400, 3) := by decide +kernel
theorem dX8_init_8 : decode cX8_init 8 = .ok (.newarray .byte, 2) := by decide +kernel
theorem dX8_init_10 : decode cX8_init 10 = .ok (.putfield 11, 3) := by decide +kernel
theorem dX8_init_13 : decode cX8_init 13 = .ok (.aload_n 0, 1) := by decide +kernel
theorem dX8_init_14 : decode cX8_init 14 = .ok (.iconst 5, 1) := by decide +kernel
theorem dX8_init_15 : decode cX8_init 15 = .ok (.newarray .int, 2) := by decide +kernel
theorem dX8_init_17 : decode cX8_init 17 = .ok (.putfield 15, 3) := by decide +kernel
theorem dX8_init_20 : decode cX8_init 20 = .ok (.return_, 1) := by decide +kernel
def fX8_init_8 (s0 : Mem) : Option Res :=
 lt (zm s0 9) (fun s1 =>
 lt (zm s1 10) (fun s2 =>
 some (0, s2)))
set_option maxRecDepth 100000 in
set_option maxHeartbeats 4000000 in
theorem mX8_init_8 (l : Launch) (D : va_G) (cA : Nat → ClassId) (s0 : Mem) : MKZ l D cA yX8_init cX8_init 1 rmX8_init_8 (2, 405) (ZC 9 [8, 0]) (ZC 11 [8, 0]) [.inr (.inr 8)] s0 (fX8_init_8 s0) := by
  refine MKZ_of (own := RX8) (ls := [some (.inr (.inr 8))]) 0 (by decide +kernel) rfl rfl (fun _ => Nat.le_of_ble_eq_true rfl) (by decide +kernel) (by decide +kernel) (fun K hin hq => ?_)
  have hin := hin rfl
  unfold fX8_init_8
  refine z_aload_n dX8_init_0 rfl rfl ?_
  refine z_objInit oi_RX8_3 ⟨by decide, by decide⟩ (Nat.le_of_ble_eq_true rfl) dX8_init_1 ?_
  refine z_aload_n dX8_init_4 rfl rfl ?_
  refine z_sipush (v := 400) dX8_init_5 (by decide +kernel) (inr_d rfl) ?_
  refine z_newa (kd := 1) (N := 400) (Z2 := (ZC 10 [9, 8, 0])) (cs2 := (1, 400)) acl_1 rfl rfl (fun _ _ => rfl) rfl rfl (by decide) (by decide +kernel) (by decide +kernel) (by decide +kernel) (by decide +kernel) (by decide) rfl ⟨by decide, by decide⟩ dX8_init_8 (fun s1 => ?_)
  refine z_putR (fs := [some none, none, some none, none]) (Z2 := (ZC 10 [8, 0])) hin fpr_RX8_11 (by decide +kernel) (by decide) (by decide +kernel) (by decide +kernel) dX8_init_10 ?_
  refine z_aload_n dX8_init_13 rfl rfl ?_
  refine z_iconst dX8_init_14 (inr_d rfl) ?_
  refine z_newa (kd := 0) (N := 5) (Z2 := (ZC 11 [10, 8, 0])) (cs2 := (2, 405)) acl_0 rfl rfl (fun _ _ => rfl) rfl rfl (by decide) (by decide +kernel) (by decide +kernel) (by decide +kernel) (by decide +kernel) (by decide) rfl ⟨by decide, by decide⟩ dX8_init_15 (fun s2 => ?_)
  refine z_putR (fs := [some (some 9), none, some none, none]) (Z2 := (ZC 11 [8, 0])) hin fpr_RX8_15 (by decide +kernel) (by decide) (by decide +kernel) (by decide +kernel) dX8_init_17 ?_
  exact z_vret hq dX8_init_20
abbrev rmX6_init_11 : Room := { frames := 1, cells := 8, slots := 337, locals := 20 }
theorem dX6_init_0 : decode cX6_init 0 = .ok (.aload_n 0, 1) := by decide +kernel
theorem dX6_init_1 : decode cX6_init 1 = .ok (.invokespecial 3, 3) := by decide +kernel
theorem dX6_init_4 : decode cX6_init 4 = .ok (.aload_n 0, 1) := by decide +kernel
theorem dX6_init_5 : decode cX6_init 5 = .ok (.bipush 17, 2) := by decide +kernel
theorem dX6_init_7 : decode cX6_init 7 = .ok (.newarray .int, 2) := by decide +kernel
theorem dX6_init_9 : decode cX6_init 9 = .ok (.putfield 9, 3) := by decide +kernel
theorem dX6_init_12 : decode cX6_init 12 = .ok (.aload_n 0, 1) := by decide +kernel
theorem dX6_init_13 : decode cX6_init 13 = .ok (.bipush 48, 2) := by decide +kernel
theorem dX6_init_15 : decode cX6_init 15 = .ok (.newarray .int, 2) := by decide +kernel
theorem dX6_init_17 : decode cX6_init 17 = .ok (.putfield 15, 3) := by decide +kernel
theorem dX6_init_20 : decode cX6_init 20 = .ok (.aload_n 0, 1) := by decide +kernel
theorem dX6_init_21 : decode cX6_init 21 = .ok (.bipush 16, 2) := by decide +kernel
theorem dX6_init_23 : decode cX6_init 23 = .ok (.newarray .int, 2) := by decide +kernel
theorem dX6_init_25 : decode cX6_init 25 = .ok (.putfield 18, 3) := by decide +kernel
theorem dX6_init_28 : decode cX6_init 28 = .ok (.aload_n 0, 1) := by decide +kernel
theorem dX6_init_29 : decode cX6_init 29 = .ok (.bipush 48, 2) := by decide +kernel
theorem dX6_init_31 : decode cX6_init 31 = .ok (.newarray .int, 2) := by decide +kernel
theorem dX6_init_33 : decode cX6_init 33 = .ok (.putfield 21, 3) := by decide +kernel
theorem dX6_init_36 : decode cX6_init 36 = .ok (.aload_n 0, 1) := by decide +kernel
theorem dX6_init_37 : decode cX6_init 37 = .ok (.bipush 16, 2) := by decide +kernel
theorem dX6_init_39 : decode cX6_init 39 = .ok (.newarray .int, 2) := by decide +kernel
theorem dX6_init_41 : decode cX6_init 41 = .ok (.putfield 24, 3) := by decide +kernel
theorem dX6_init_44 : decode cX6_init 44 = .ok (.aload_n 0, 1) := by decide +kernel
theorem dX6_init_45 : decode cX6_init 45 = .ok (.bipush 64, 2) := by decide +kernel
theorem dX6_init_47 : decode cX6_init 47 = .ok (.newarray .int, 2) := by decide +kernel
theorem dX6_init_49 : decode cX6_init 49 = .ok (.putfield 27, 3) := by decide +kernel
theorem dX6_init_52 : decode cX6_init 52 = .ok (.aload_n 0, 1) := by decide +kernel
theorem dX6_init_53 : decode cX6_init 53 = .ok (.bipush 64, 2) := by decide +kernel
theorem dX6_init_55 : decode cX6_init 55 = .ok (.newarray .int, 2) := by decide +kernel
theorem dX6_init_57 : decode cX6_init 57 = .ok (.putfield 30, 3) := by decide +kernel
theorem dX6_init_60 : decode cX6_init 60 = .ok (.aload_n 0, 1) := by decide +kernel
theorem dX6_init_61 : decode cX6_init 61 = .ok (.bipush 64, 2) := by decide +kernel
theorem dX6_init_63 : decode cX6_init 63 = .ok (.newarray .int, 2) := by decide +kernel
theorem dX6_init_65 : decode cX6_init 65 = .ok (.putfield 33, 3) := by decide +kernel
theorem dX6_init_68 : decode cX6_init 68 = .ok (.return_, 1) := by decide +kernel
def fX6_init_11 (s0 : Mem) : Option Res :=
 lt (zm s0 12) (fun s1 =>
 lt (zm s1 13) (fun s2 =>
 lt (zm s2 14) (fun s3 =>
 lt (zm s3 15) (fun s4 =>
 lt (zm s4 16) (fun s5 =>
 lt (zm s5 17) (fun s6 =>
 lt (zm s6 18) (fun s7 =>
 lt (zm s7 19) (fun s8 =>
 some (0, s8)))))))))
set_option maxRecDepth 100000 in
set_option maxHeartbeats 4000000 in
theorem mX6_init_11 (l : Launch) (D : va_G) (cA : Nat → ClassId) (s0 : Mem) : MKZ l D cA yX6_init cX6_init 1 rmX6_init_11 (8, 337) (ZC 12 [11, 0]) (ZC 20 [11, 0]) [.inr (.inr 11)] s0 (fX6_init_11 s0) := by
  refine MKZ_of (own := RX6) (ls := [some (.inr (.inr 11))]) 0 (by decide +kernel) rfl rfl (fun _ => Nat.le_of_ble_eq_true rfl) (by decide +kernel) (by decide +kernel) (fun K hin hq => ?_)
  have hin := hin rfl
  unfold fX6_init_11
  refine z_aload_n dX6_init_0 rfl rfl ?_
  refine z_objInit oi_RX6_3 ⟨by decide, by decide⟩ (Nat.le_of_ble_eq_true rfl) dX6_init_1 ?_
  refine z_aload_n dX6_init_4 rfl rfl ?_
  refine z_bipush (v := 17) dX6_init_5 (by decide +kernel) (inr_d rfl) ?_
  refine z_newa (kd := 0) (N := 17) (Z2 := (ZC 13 [12, 11, 0])) (cs2 := (1, 17)) acl_0 rfl rfl (fun _ _ => rfl) rfl rfl (by decide) (by decide +kernel) (by decide +kernel) (by decide +kernel) (by decide +kernel) (by decide) rfl ⟨by decide, by decide⟩ dX6_init_7 (fun s1 => ?_)
  refine z_putR (fs := [none, none, some none, some none, some none, some none, some none, some none, some none, some none]) (Z2 := (ZC 13 [11, 0])) hin fpr_RX6_9 (by decide +kernel) (by decide) (by decide +kernel) (by decide +kernel) dX6_init_9 ?_
  refine z_aload_n dX6_init_12 rfl rfl ?_
  refine z_bipush (v := 48) dX6_init_13 (by decide +kernel) (inr_d rfl) ?_
  refine z_newa (kd := 0) (N := 48) (Z2 := (ZC 14 [13, 11, 0])) (cs2 := (2, 65)) acl_0 rfl rfl (fun _ _ => rfl) rfl rfl (by decide) (by decide +kernel) (by decide +kernel) (by decide +kernel) (by decide +kernel) (by decide) rfl ⟨by decide, by decide⟩ dX6_init_15 (fun s2 => ?_)
  refine z_putR (fs := [none, none, some (some 12), some none, some none, some none, some none, some none, some none, some none]) (Z2 := (ZC 14 [11, 0])) hin fpr_RX6_15 (by decide +kernel) (by decide) (by decide +kernel) (by decide +kernel) dX6_init_17 ?_
  refine z_aload_n dX6_init_20 rfl rfl ?_
  refine z_bipush (v := 16) dX6_init_21 (by decide +kernel) (inr_d rfl) ?_
  refine z_newa (kd := 0) (N := 16) (Z2 := (ZC 15 [14, 11, 0])) (cs2 := (3, 81)) acl_0 rfl rfl (fun _ _ => rfl) rfl rfl (by decide) (by decide +kernel) (by decide +kernel) (by decide +kernel) (by decide +kernel) (by decide) rfl ⟨by decide, by decide⟩ dX6_init_23 (fun s3 => ?_)
  refine z_putR (fs := [none, none, some (some 12), some (some 13), some none, some none, some none, some none, some none, some none]) (Z2 := (ZC 15 [11, 0])) hin fpr_RX6_18 (by decide +kernel) (by decide) (by decide +kernel) (by decide +kernel) dX6_init_25 ?_
  refine z_aload_n dX6_init_28 rfl rfl ?_
  refine z_bipush (v := 48) dX6_init_29 (by decide +kernel) (inr_d rfl) ?_
  refine z_newa (kd := 0) (N := 48) (Z2 := (ZC 16 [15, 11, 0])) (cs2 := (4, 129)) acl_0 rfl rfl (fun _ _ => rfl) rfl rfl (by decide) (by decide +kernel) (by decide +kernel) (by decide +kernel) (by decide +kernel) (by decide) rfl ⟨by decide, by decide⟩ dX6_init_31 (fun s4 => ?_)
  refine z_putR (fs := [none, none, some (some 12), some (some 13), some (some 14), some none, some none, some none, some none, some none]) (Z2 := (ZC 16 [11, 0])) hin fpr_RX6_21 (by decide +kernel) (by decide) (by decide +kernel) (by decide +kernel) dX6_init_33 ?_
  refine z_aload_n dX6_init_36 rfl rfl ?_
  refine z_bipush (v := 16) dX6_init_37 (by decide +kernel) (inr_d rfl) ?_
  refine z_newa (kd := 0) (N := 16) (Z2 := (ZC 17 [16, 11, 0])) (cs2 := (5, 145)) acl_0 rfl rfl (fun _ _ => rfl) rfl rfl (by decide) (by decide +kernel) (by decide +kernel) (by decide +kernel) (by decide +kernel) (by decide) rfl ⟨by decide, by decide⟩ dX6_init_39 (fun s5 => ?_)
  refine z_putR (fs := [none, none, some (some 12), some (some 13), some (some 14), some (some 15), some none, some none, some none, some none]) (Z2 := (ZC 17 [11, 0])) hin fpr_RX6_24 (by decide +kernel) (by decide) (by decide +kernel) (by decide +kernel) dX6_init_41 ?_
  refine z_aload_n dX6_init_44 rfl rfl ?_
  refine z_bipush (v := 64) dX6_init_45 (by decide +kernel) (inr_d rfl) ?_
  refine z_newa (kd := 0) (N := 64) (Z2 := (ZC 18 [17, 11, 0])) (cs2 := (6, 209)) acl_0 rfl rfl (fun _ _ => rfl) rfl rfl (by decide) (by decide +kernel) (by decide +kernel) (by decide +kernel) (by decide +kernel) (by decide) rfl ⟨by decide, by decide⟩ dX6_init_47 (fun s6 => ?_)
  refine z_putR (fs := [none, none, some (some 12), some (some 13), some (some 14), some (some 15), some (some 16), some none, some none, some none]) (Z2 := (ZC 18 [11, 0])) hin fpr_RX6_27 (by decide +kernel) (by decide) (by decide +kernel) (by decide +kernel) dX6_init_49 ?_
  refine z_aload_n dX6_init_52 rfl rfl ?_
  refine z_bipush (v := 64) dX6_init_53 (by decide +kernel) (inr_d rfl) ?_
  refine z_newa (kd := 0) (N := 64) (Z2 := (ZC 19 [18, 11, 0])) (cs2 := (7, 273)) acl_0 rfl rfl (fun _ _ => rfl) rfl rfl (by decide) (by decide +kernel) (by decide +kernel) (by decide +kernel) (by decide +kernel) (by decide) rfl ⟨by decide, by decide⟩ dX6_init_55 (fun s7 => ?_)
  refine z_putR (fs := [none, none, some (some 12), some (some 13), some (some 14), some (some 15), some (some 16), some (some 17), some none, some none]) (Z2 := (ZC 19 [11, 0])) hin fpr_RX6_30 (by decide +kernel) (by decide) (by decide +kernel) (by decide +kernel) dX6_init_57 ?_
  refine z_aload_n dX6_init_60 rfl rfl ?_
  refine z_bipush (v := 64) dX6_init_61 (by decide +kernel) (inr_d rfl) ?_
  refine z_newa (kd := 0) (N := 64) (Z2 := (ZC 20 [19, 11, 0])) (cs2 := (8, 337)) acl_0 rfl rfl (fun _ _ => rfl) rfl rfl (by decide) (by decide +kernel) (by decide +kernel) (by decide +kernel) (by decide +kernel) (by decide) rfl ⟨by decide, by decide⟩ dX6_init_63 (fun s8 => ?_)
  refine z_putR (fs := [none, none, some (some 12), some (some 13), some (some 14), some (some 15), some (some 16), some (some 17), some (some 18), some none]) (Z2 := (ZC 20 [11, 0])) hin fpr_RX6_33 (by decide +kernel) (by decide) (by decide +kernel) (by decide +kernel) dX6_init_65 ?_
  exact z_vret hq dX6_init_68
abbrev rmX6_init_21 : Room := { frames := 1, cells := 8, slots := 337, locals := 20 }
def fX6_init_21 (s0 : Mem) : Option Res :=
 lt (zm s0 22) (fun s1 =>
 lt (zm s1 23) (fun s2 =>
 lt (zm s2 24) (fun s3 =>
 lt (zm s3 25) (fun s4 =>
 lt (zm s4 26) (fun s5 =>
 lt (zm s5 27) (fun s6 =>
 lt (zm s6 28) (fun s7 =>
 lt (zm s7 29) (fun s8 =>
 some (0, s8)))))))))
set_option maxRecDepth 100000 in
set_option maxHeartbeats 4000000 in
theorem mX6_init_21 (l : Launch) (D : va_G) (cA : Nat → ClassId) (s0 : Mem) : MKZ l D cA yX6_init cX6_init 1 rmX6_init_21 (8, 337) (ZC 22 [21, 20, 0]) (ZC 30 [21, 20, 0]) [.inr (.inr 21)] s0 (fX6_init_21 s0) := by
  refine MKZ_of (own := RX6) (ls := [some (.inr (.inr 21))]) 0 (by decide +kernel) rfl rfl (fun _ => Nat.le_of_ble_eq_true rfl) (by decide +kernel) (by decide +kernel) (fun K hin hq => ?_)
  have hin := hin rfl
  unfold fX6_init_21
  refine z_aload_n dX6_init_0 rfl rfl ?_
  refine z_objInit oi_RX6_3 ⟨by decide, by decide⟩ (Nat.le_of_ble_eq_true rfl) dX6_init_1 ?_
  refine z_aload_n dX6_init_4 rfl rfl ?_
  refine z_bipush (v := 17) dX6_init_5 (by decide +kernel) (inr_d rfl) ?_
  refine z_newa (kd := 0) (N := 17) (Z2 := (ZC 23 [22, 21, 20, 0])) (cs2 := (1, 17)) acl_0 rfl rfl (fun _ _ => rfl) rfl rfl (by decide) (by decide +kernel) (by decide +kernel) (by decide +kernel) (by decide +kernel) (by decide) rfl ⟨by decide, by decide⟩ dX6_init_7 (fun s1 => ?_)
  refine z_putR (fs := [none, none, some none, some none, some none, some none, some none, some none, some none, some none]) (Z2 := (ZC 23 [21, 20, 0])) hin fpr_RX6_9 (by decide +kernel) (by decide) (by decide +kernel) (by decide +kernel) dX6_init_9 ?_
  refine z_aload_n dX6_init_12 rfl rfl ?_
  refine z_bipush (v := 48) dX6_init_13 (by decide +kernel) (inr_d rfl) ?_
  refine z_newa (kd := 0) (N := 48) (Z2 := (ZC 24 [23, 21, 20, 0])) (cs2 := (2, 65)) acl_0 rfl rfl (fun _ _ => rfl) rfl rfl (by decide) (by decide +kernel) (by decide +kernel) (by decide +kernel) (by decide +kernel) (by decide) rfl ⟨by decide, by decide⟩ dX6_init_15 (fun s2 => ?_)
  refine z_putR (fs := [none, none, some (some 22), some none, some none, some none, some none, some none, some none, some none]) (Z2 := (ZC 24 [21, 20, 0])) hin fpr_RX6_15 (by decide +kernel) (by decide) (by decide +kernel) (by decide +kernel) dX6_init_17 ?_
  refine z_aload_n dX6_init_20 rfl rfl ?_
  refine z_bipush (v := 16) dX6_init_21 (by decide +kernel) (inr_d rfl) ?_
  refine z_newa (kd := 0) (N := 16) (Z2 := (ZC 25 [24, 21, 20, 0])) (cs2 := (3, 81)) acl_0 rfl rfl (fun _ _ => rfl) rfl rfl (by decide) (by decide +kernel) (by decide +kernel) (by decide +kernel) (by decide +kernel) (by decide) rfl ⟨by decide, by decide⟩ dX6_init_23 (fun s3 => ?_)
  refine z_putR (fs := [none, none, some (some 22), some (some 23), some none, some none, some none, some none, some none, some none]) (Z2 := (ZC 25 [21, 20, 0])) hin fpr_RX6_18 (by decide +kernel) (by decide) (by decide +kernel) (by decide +kernel) dX6_init_25 ?_
  refine z_aload_n dX6_init_28 rfl rfl ?_
  refine z_bipush (v := 48) dX6_init_29 (by decide +kernel) (inr_d rfl) ?_
  refine z_newa (kd := 0) (N := 48) (Z2 := (ZC 26 [25, 21, 20, 0])) (cs2 := (4, 129)) acl_0 rfl rfl (fun _ _ => rfl) rfl rfl (by decide) (by decide +kernel) (by decide +kernel) (by decide +kernel) (by decide +kernel) (by decide) rfl ⟨by decide, by decide⟩ dX6_init_31 (fun s4 => ?_)
  refine z_putR (fs := [none, none, some (some 22), some (some 23), some (some 24), some none, some none, some none, some none, some none]) (Z2 := (ZC 26 [21, 20, 0])) hin fpr_RX6_21 (by decide +kernel) (by decide) (by decide +kernel) (by decide +kernel) dX6_init_33 ?_
  refine z_aload_n dX6_init_36 rfl rfl ?_
  refine z_bipush (v := 16) dX6_init_37 (by decide +kernel) (inr_d rfl) ?_
  refine z_newa (kd := 0) (N := 16) (Z2 := (ZC 27 [26, 21, 20, 0])) (cs2 := (5, 145)) acl_0 rfl rfl (fun _ _ => rfl) rfl rfl (by decide) (by decide +kernel) (by decide +kernel) (by decide +kernel) (by decide +kernel) (by decide) rfl ⟨by decide, by decide⟩ dX6_init_39 (fun s5 => ?_)
  refine z_putR (fs := [none, none, some (some 22), some (some 23), some (some 24), some (some 25), some none, some none, some none, some none]) (Z2 := (ZC 27 [21, 20, 0])) hin fpr_RX6_24 (by decide +kernel) (by decide) (by decide +kernel) (by decide +kernel) dX6_init_41 ?_
  refine z_aload_n dX6_init_44 rfl rfl ?_
  refine z_bipush (v := 64) dX6_init_45 (by decide +kernel) (inr_d rfl) ?_
  refine z_newa (kd := 0) (N := 64) (Z2 := (ZC 28 [27, 21, 20, 0])) (cs2 := (6, 209)) acl_0 rfl rfl (fun _ _ => rfl) rfl rfl (by decide) (by decide +kernel) (by decide +kernel) (by decide +kernel) (by decide +kernel) (by decide) rfl ⟨by decide, by decide⟩ dX6_init_47 (fun s6 => ?_)
  refine z_putR (fs := [none, none, some (some 22), some (some 23), some (some 24), some (some 25), some (some 26), some none, some none, some none]) (Z2 := (ZC 28 [21, 20, 0])) hin fpr_RX6_27 (by decide +kernel) (by decide) (by decide +kernel) (by decide +kernel) dX6_init_49 ?_
  refine z_aload_n dX6_init_52 rfl rfl ?_
  refine z_bipush (v := 64) dX6_init_53 (by decide +kernel) (inr_d rfl) ?_
  refine z_newa (kd := 0) (N := 64) (Z2 := (ZC 29 [28, 21, 20, 0])) (cs2 := (7, 273)) acl_0 rfl rfl (fun _ _ => rfl) rfl rfl (by decide) (by decide +kernel) (by decide +kernel) (by decide +kernel) (by decide +kernel) (by decide) rfl ⟨by decide, by decide⟩ dX6_init_55 (fun s7 => ?_)
  refine z_putR (fs := [none, none, some (some 22), some (some 23), some (some 24), some (some 25), some (some 26), some (some 27), some none, some none]) (Z2 := (ZC 29 [21, 20, 0])) hin fpr_RX6_30 (by decide +kernel) (by decide) (by decide +kernel) (by decide +kernel) dX6_init_57 ?_
  refine z_aload_n dX6_init_60 rfl rfl ?_
  refine z_bipush (v := 64) dX6_init_61 (by decide +kernel) (inr_d rfl) ?_
  refine z_newa (kd := 0) (N := 64) (Z2 := (ZC 30 [29, 21, 20, 0])) (cs2 := (8, 337)) acl_0 rfl rfl (fun _ _ => rfl) rfl rfl (by decide) (by decide +kernel) (by decide +kernel) (by decide +kernel) (by decide +kernel) (by decide) rfl ⟨by decide, by decide⟩ dX6_init_63 (fun s8 => ?_)
  refine z_putR (fs := [none, none, some (some 22), some (some 23), some (some 24), some (some 25), some (some 26), some (some 27), some (some 28), some none]) (Z2 := (ZC 30 [21, 20, 0])) hin fpr_RX6_33 (by decide +kernel) (by decide) (by decide +kernel) (by decide +kernel) dX6_init_65 ?_
  exact z_vret hq dX6_init_68
abbrev rmX5_init_34 : Room := { frames := 1, cells := 3, slots := 24, locals := 20 }
theorem dX5_init_0 : decode cX5_init 0 = .ok (.aload_n 0, 1) := by decide +kernel
theorem dX5_init_1 : decode cX5_init 1 = .ok (.invokespecial 3, 3) := by decide +kernel
theorem dX5_init_4 : decode cX5_init 4 = .ok (.aload_n 0, 1) := by decide +kernel
theorem dX5_init_5 : decode cX5_init 5 = .ok (.bipush 8, 2) := by decide +kernel
theorem dX5_init_7 : decode cX5_init 7 = .ok (.newarray .int, 2) := by decide +kernel
theorem dX5_init_9 : decode cX5_init 9 = .ok (.putfield 9, 3) := by decide +kernel
theorem dX5_init_12 : decode cX5_init 12 = .ok (.aload_n 0, 1) := by decide +kernel
theorem dX5_init_13 : decode cX5_init 13 = .ok (.bipush 8, 2) := by decide +kernel
theorem dX5_init_15 : decode cX5_init 15 = .ok (.newarray .int, 2) := by decide +kernel
theorem dX5_init_17 : decode cX5_init 17 = .ok (.putfield 15, 3) := by decide +kernel
theorem dX5_init_20 : decode cX5_init 20 = .ok (.aload_n 0, 1) := by decide +kernel
theorem dX5_init_21 : decode cX5_init 21 = .ok (.bipush 8, 2) := by decide +kernel
theorem dX5_init_23 : decode cX5_init 23 = .ok (.newarray .boolean, 2) := by decide +kernel
theorem dX5_init_25 : decode cX5_init 25 = .ok (.putfield 18, 3) := by decide +kernel
theorem dX5_init_28 : decode cX5_init 28 = .ok (.return_, 1) := by decide +kernel
def fX5_init_34 (s0 : Mem) : Option Res :=
 lt (zm s0 35) (fun s1 =>
 lt (zm s1 36) (fun s2 =>
 lt (zm s2 37) (fun s3 =>
 some (0, s3))))
set_option maxRecDepth 100000 in
set_option maxHeartbeats 4000000 in
theorem mX5_init_34 (l : Launch) (D : va_G) (cA : Nat → ClassId) (s0 : Mem) : MKZ l D cA yX5_init cX5_init 1 rmX5_init_34 (3, 24) (ZC 35 [34, 20, 0]) (ZC 38 [34, 20, 0]) [.inr (.inr 34)] s0 (fX5_init_34 s0) := by
  refine MKZ_of (own := RX5) (ls := [some (.inr (.inr 34))]) 0 (by decide +kernel) rfl rfl (fun _ => Nat.le_of_ble_eq_true rfl) (by decide +kernel) (by decide +kernel) (fun K hin hq => ?_)
  have hin := hin rfl
  unfold fX5_init_34
  refine z_aload_n dX5_init_0 rfl rfl ?_
  refine z_objInit oi_RX5_3 ⟨by decide, by decide⟩ (Nat.le_of_ble_eq_true rfl) dX5_init_1 ?_
  refine z_aload_n dX5_init_4 rfl rfl ?_
  refine z_bipush (v := 8) dX5_init_5 (by decide +kernel) (inr_d rfl) ?_
  refine z_newa (kd := 0) (N := 8) (Z2 := (ZC 36 [35, 34, 20, 0])) (cs2 := (1, 8)) acl_0 rfl rfl (fun _ _ => rfl) rfl rfl (by decide) (by decide +kernel) (by decide +kernel) (by decide +kernel) (by decide +kernel) (by decide) rfl ⟨by decide, by decide⟩ dX5_init_7 (fun s1 => ?_)
  refine z_putR (fs := [some none, some none, some none]) (Z2 := (ZC 36 [34, 20, 0])) hin fpr_RX5_9 (by decide +kernel) (by decide) (by decide +kernel) (by decide +kernel) dX5_init_9 ?_
  refine z_aload_n dX5_init_12 rfl rfl ?_
  refine z_bipush (v := 8) dX5_init_13 (by decide +kernel) (inr_d rfl) ?_
  refine z_newa (kd := 0) (N := 8) (Z2 := (ZC 37 [36, 34, 20, 0])) (cs2 := (2, 16)) acl_0 rfl rfl (fun _ _ => rfl) rfl rfl (by decide) (by decide +kernel) (by decide +kernel) (by decide +kernel) (by decide +kernel) (by decide) rfl ⟨by decide, by decide⟩ dX5_init_15 (fun s2 => ?_)
  refine z_putR (fs := [some (some 35), some none, some none]) (Z2 := (ZC 37 [34, 20, 0])) hin fpr_RX5_15 (by decide +kernel) (by decide) (by decide +kernel) (by decide +kernel) dX5_init_17 ?_
  refine z_aload_n dX5_init_20 rfl rfl ?_
  refine z_bipush (v := 8) dX5_init_21 (by decide +kernel) (inr_d rfl) ?_
  refine z_newa (kd := 2) (N := 8) (Z2 := (ZC 38 [37, 34, 20, 0])) (cs2 := (3, 24)) acl_2 rfl rfl (fun _ _ => rfl) rfl rfl (by decide) (by decide +kernel) (by decide +kernel) (by decide +kernel) (by decide +kernel) (by decide) rfl ⟨by decide, by decide⟩ dX5_init_23 (fun s3 => ?_)
  refine z_putR (fs := [some (some 35), some (some 36), some none]) (Z2 := (ZC 38 [34, 20, 0])) hin fpr_RX5_18 (by decide +kernel) (by decide) (by decide +kernel) (by decide +kernel) dX5_init_25 ?_
  exact z_vret hq dX5_init_28
abbrev rmX2_init_20 : Room := { frames := 2, cells := 18, slots := 517, locals := 40 }
theorem dX2_init_0 : decode cX2_init 0 = .ok (.aload_n 0, 1) := by decide +kernel
theorem dX2_init_1 : decode cX2_init 1 = .ok (.invokespecial 3, 3) := by decide +kernel
theorem dX2_init_4 : decode cX2_init 4 = .ok (.aload_n 0, 1) := by decide +kernel
theorem dX2_init_5 : decode cX2_init 5 = .ok (.new 9, 3) := by decide +kernel
theorem dX2_init_8 : decode cX2_init 8 = .ok (.dup, 1) := by decide +kernel
theorem dX2_init_9 : decode cX2_init 9 = .ok (.invokespecial 11, 3) := by decide +kernel
theorem dX2_init_12 : decode cX2_init 12 = .ok (.putfield 12, 3) := by decide +kernel
theorem dX2_init_15 : decode cX2_init 15 = .ok (.aload_n 0, 1) := by decide +kernel
theorem dX2_init_16 : decode cX2_init 16 = .ok (.bipush 48, 2) := by decide +kernel
theorem dX2_init_18 : decode cX2_init 18 = .ok (.newarray .int, 2) := by decide +kernel
theorem dX2_init_20 : decode cX2_init 20 = .ok (.putfield 18, 3) := by decide +kernel
theorem dX2_init_23 : decode cX2_init 23 = .ok (.aload_n 0, 1) := by decide +kernel
theorem dX2_init_24 : decode cX2_init 24 = .ok (.bipush 48, 2) := by decide +kernel
theorem dX2_init_26 : decode cX2_init 26 = .ok (.newarray .int, 2) := by decide +kernel
theorem dX2_init_28 : decode cX2_init 28 = .ok (.putfield 22, 3) := by decide +kernel
theorem dX2_init_31 : decode cX2_init 31 = .ok (.aload_n 0, 1) := by decide +kernel
theorem dX2_init_32 : decode cX2_init 32 = .ok (.bipush 16, 2) := by decide +kernel
theorem dX2_init_34 : decode cX2_init 34 = .ok (.newarray .int, 2) := by decide +kernel
theorem dX2_init_36 : decode cX2_init 36 = .ok (.putfield 25, 3) := by decide +kernel
theorem dX2_init_39 : decode cX2_init 39 = .ok (.aload_n 0, 1) := by decide +kernel
theorem dX2_init_40 : decode cX2_init 40 = .ok (.bipush 16, 2) := by decide +kernel
theorem dX2_init_42 : decode cX2_init 42 = .ok (.newarray .int, 2) := by decide +kernel
theorem dX2_init_44 : decode cX2_init 44 = .ok (.putfield 28, 3) := by decide +kernel
theorem dX2_init_47 : decode cX2_init 47 = .ok (.aload_n 0, 1) := by decide +kernel
theorem dX2_init_48 : decode cX2_init 48 = .ok (.new 31, 3) := by decide +kernel
theorem dX2_init_51 : decode cX2_init 51 = .ok (.dup, 1) := by decide +kernel
theorem dX2_init_52 : decode cX2_init 52 = .ok (.invokespecial 33, 3) := by decide +kernel
theorem dX2_init_55 : decode cX2_init 55 = .ok (.putfield 34, 3) := by decide +kernel
theorem dX2_init_58 : decode cX2_init 58 = .ok (.aload_n 0, 1) := by decide +kernel
theorem dX2_init_59 : decode cX2_init 59 = .ok (.bipush 15, 2) := by decide +kernel
theorem dX2_init_61 : decode cX2_init 61 = .ok (.newarray .int, 2) := by decide +kernel
theorem dX2_init_63 : decode cX2_init 63 = .ok (.putfield 38, 3) := by decide +kernel
theorem dX2_init_66 : decode cX2_init 66 = .ok (.aload_n 0, 1) := by decide +kernel
theorem dX2_init_67 : decode cX2_init 67 = .ok (.getfield 18, 3) := by decide +kernel
theorem dX2_init_70 : decode cX2_init 70 = .ok (.bipush 30, 2) := by decide +kernel
theorem dX2_init_72 : decode cX2_init 72 = .ok (.invokestatic 41, 3) := by decide +kernel
theorem dX2_init_75 : decode cX2_init 75 = .ok (.aload_n 0, 1) := by decide +kernel
theorem dX2_init_76 : decode cX2_init 76 = .ok (.getfield 22, 3) := by decide +kernel
theorem dX2_init_79 : decode cX2_init 79 = .ok (.iconst (-1), 1) := by decide +kernel
theorem dX2_init_80 : decode cX2_init 80 = .ok (.invokestatic 41, 3) := by decide +kernel
theorem dX2_init_83 : decode cX2_init 83 = .ok (.aload_n 0, 1) := by decide +kernel
theorem dX2_init_84 : decode cX2_init 84 = .ok (.getfield 25, 3) := by decide +kernel
theorem dX2_init_87 : decode cX2_init 87 = .ok (.iconst (-1), 1) := by decide +kernel
theorem dX2_init_88 : decode cX2_init 88 = .ok (.invokestatic 41, 3) := by decide +kernel
theorem dX2_init_91 : decode cX2_init 91 = .ok (.return_, 1) := by decide +kernel
def fX2_init_20 (s0 : Mem) : Option Res :=
 lt (zm s0 21) (fun s1 =>
 bnd (fX6_init_21 s1) (fun _ s2 =>
 lt (zm s2 30) (fun s3 =>
 lt (zm s3 31) (fun s4 =>
 lt (zm s4 32) (fun s5 =>
 lt (zm s5 33) (fun s6 =>
 lt (zm s6 34) (fun s7 =>
 bnd (fX5_init_34 s7) (fun _ s8 =>
 lt (zm s8 38) (fun s9 =>
 bnd (fzJ7_fill_53178 30 48 30 s9) (fun _ s10 =>
 bnd (fzJ7_fill_53178 31 48 (-1) s10) (fun _ s11 =>
 bnd (fzJ7_fill_53178 32 16 (-1) s11) (fun _ s12 =>
 some (0, s12)))))))))))))
set_option maxRecDepth 100000 in
set_option maxHeartbeats 4000000 in
theorem mX2_init_20 (l : Launch) (D : va_G) (cA : Nat → ClassId) (s0 : Mem) : MKZ l D cA yX2_init cX2_init 1 rmX2_init_20 (18, 517) (ZC 21 [20, 0]) (ZC 39 [20, 0]) [.inr (.inr 20)] s0 (fX2_init_20 s0) := by
  refine MKZ_of (own := RX2) (ls := [some (.inr (.inr 20))]) 0 (by decide +kernel) rfl rfl (fun _ => Nat.le_of_ble_eq_true rfl) (by decide +kernel) (by decide +kernel) (fun K hin hq => ?_)
  have hin := hin rfl
  unfold fX2_init_20
  refine z_aload_n dX2_init_0 rfl rfl ?_
  refine z_objInit oi_RX2_3 ⟨by decide, by decide⟩ (Nat.le_of_ble_eq_true rfl) dX2_init_1 ?_
  refine z_aload_n dX2_init_4 rfl rfl ?_
  refine z_new (ci := 6) (fs := [none, none, some none, some none, some none, some none, some none, some none, some none, some none]) (Z2 := (ZC 22 [21, 20, 0])) (cs2 := (1, 10)) nw_RX2_9 rfl lays_6 tyX6_ok (by decide +kernel) (by decide +kernel) (by decide +kernel) (by decide +kernel) (by decide) rfl ⟨by decide, by decide⟩ dX2_init_5 (fun s1 => ?_)
  refine z_dup dX2_init_8 ?_
  refine z_callN (Z1 := (ZC 30 [21, 20, 0])) (cs2 := (9, 347)) (mX6_init_21 (zl K) (zD K) (zcA K) s1) ci_RX2_11 ⟨rfl, rfl, by decide, by decide⟩ rfl ⟨by decide, by decide⟩ ⟨by decide +kernel, by decide +kernel⟩ (by decide +kernel) (Nat.le_of_ble_eq_true rfl) dX2_init_9 (fun _ s2 => ?_)
  refine z_putR (fs := [some none, some none, some none, some none, some none, some none, some none]) (Z2 := (ZC 30 [20, 0])) hin fpr_RX2_12 (by decide +kernel) (by decide) (by decide +kernel) (by decide +kernel) dX2_init_12 ?_
  refine z_aload_n dX2_init_15 rfl rfl ?_
  refine z_bipush (v := 48) dX2_init_16 (by decide +kernel) (inr_d rfl) ?_
  refine z_newa (kd := 0) (N := 48) (Z2 := (ZC 31 [30, 20, 0])) (cs2 := (10, 395)) acl_0 rfl rfl (fun _ _ => rfl) rfl rfl (by decide) (by decide +kernel) (by decide +kernel) (by decide +kernel) (by decide +kernel) (by decide) rfl ⟨by decide, by decide⟩ dX2_init_18 (fun s3 => ?_)
  refine z_putR (fs := [some (some 21), some none, some none, some none, some none, some none, some none]) (Z2 := (ZC 31 [20, 0])) hin fpr_RX2_18 (by decide +kernel) (by decide) (by decide +kernel) (by decide +kernel) dX2_init_20 ?_
  refine z_aload_n dX2_init_23 rfl rfl ?_
  refine z_bipush (v := 48) dX2_init_24 (by decide +kernel) (inr_d rfl) ?_
  refine z_newa (kd := 0) (N := 48) (Z2 := (ZC 32 [31, 20, 0])) (cs2 := (11, 443)) acl_0 rfl rfl (fun _ _ => rfl) rfl rfl (by decide) (by decide +kernel) (by decide +kernel) (by decide +kernel) (by decide +kernel) (by decide) rfl ⟨by decide, by decide⟩ dX2_init_26 (fun s4 => ?_)
  refine z_putR (fs := [some (some 21), some (some 30), some none, some none, some none, some none, some none]) (Z2 := (ZC 32 [20, 0])) hin fpr_RX2_22 (by decide +kernel) (by decide) (by decide +kernel) (by decide +kernel) dX2_init_28 ?_
  refine z_aload_n dX2_init_31 rfl rfl ?_
  refine z_bipush (v := 16) dX2_init_32 (by decide +kernel) (inr_d rfl) ?_
  refine z_newa (kd := 0) (N := 16) (Z2 := (ZC 33 [32, 20, 0])) (cs2 := (12, 459)) acl_0 rfl rfl (fun _ _ => rfl) rfl rfl (by decide) (by decide +kernel) (by decide +kernel) (by decide +kernel) (by decide +kernel) (by decide) rfl ⟨by decide, by decide⟩ dX2_init_34 (fun s5 => ?_)
  refine z_putR (fs := [some (some 21), some (some 30), some (some 31), some none, some none, some none, some none]) (Z2 := (ZC 33 [20, 0])) hin fpr_RX2_25 (by decide +kernel) (by decide) (by decide +kernel) (by decide +kernel) dX2_init_36 ?_
  refine z_aload_n dX2_init_39 rfl rfl ?_
  refine z_bipush (v := 16) dX2_init_40 (by decide +kernel) (inr_d rfl) ?_
  refine z_newa (kd := 0) (N := 16) (Z2 := (ZC 34 [33, 20, 0])) (cs2 := (13, 475)) acl_0 rfl rfl (fun _ _ => rfl) rfl rfl (by decide) (by decide +kernel) (by decide +kernel) (by decide +kernel) (by decide +kernel) (by decide) rfl ⟨by decide, by decide⟩ dX2_init_42 (fun s6 => ?_)
  refine z_putR (fs := [some (some 21), some (some 30), some (some 31), some (some 32), some none, some none, some none]) (Z2 := (ZC 34 [20, 0])) hin fpr_RX2_28 (by decide +kernel) (by decide) (by decide +kernel) (by decide +kernel) dX2_init_44 ?_
  refine z_aload_n dX2_init_47 rfl rfl ?_
  refine z_new (ci := 5) (fs := [some none, some none, some none]) (Z2 := (ZC 35 [34, 20, 0])) (cs2 := (14, 478)) nw_RX2_31 rfl lays_5 tyX5_ok (by decide +kernel) (by decide +kernel) (by decide +kernel) (by decide +kernel) (by decide) rfl ⟨by decide, by decide⟩ dX2_init_48 (fun s7 => ?_)
  refine z_dup dX2_init_51 ?_
  refine z_callN (Z1 := (ZC 38 [34, 20, 0])) (cs2 := (17, 502)) (mX5_init_34 (zl K) (zD K) (zcA K) s7) ci_RX2_33 ⟨rfl, rfl, by decide, by decide⟩ rfl ⟨by decide, by decide⟩ ⟨by decide +kernel, by decide +kernel⟩ (by decide +kernel) (Nat.le_of_ble_eq_true rfl) dX2_init_52 (fun _ s8 => ?_)
  refine z_putR (fs := [some (some 21), some (some 30), some (some 31), some (some 32), some (some 33), some none, some none]) (Z2 := (ZC 38 [20, 0])) hin fpr_RX2_34 (by decide +kernel) (by decide) (by decide +kernel) (by decide +kernel) dX2_init_55 ?_
  refine z_aload_n dX2_init_58 rfl rfl ?_
  refine z_bipush (v := 15) dX2_init_59 (by decide +kernel) (inr_d rfl) ?_
  refine z_newa (kd := 0) (N := 15) (Z2 := (ZC 39 [38, 20, 0])) (cs2 := (18, 517)) acl_0 rfl rfl (fun _ _ => rfl) rfl rfl (by decide) (by decide +kernel) (by decide +kernel) (by decide +kernel) (by decide +kernel) (by decide) rfl ⟨by decide, by decide⟩ dX2_init_61 (fun s9 => ?_)
  refine z_putR (fs := [some (some 21), some (some 30), some (some 31), some (some 32), some (some 33), some (some 34), some none]) (Z2 := (ZC 39 [20, 0])) hin fpr_RX2_38 (by decide +kernel) (by decide) (by decide +kernel) (by decide +kernel) dX2_init_63 ?_
  refine z_aload_n dX2_init_66 rfl rfl ?_
  refine z_getR (fs := [some (some 21), some (some 30), some (some 31), some (some 32), some (some 33), some (some 34), some (some 38)]) fl_RX2_18 (by decide +kernel) rfl dX2_init_67 ?_
  refine z_bipush (v := 30) dX2_init_70 (by decide +kernel) (inr_d rfl) ?_
  refine z_callS (Z1 := (ZC 39 [20, 0])) (cs2 := (18, 517)) (mzJ7_fill_53178 (zl K) (zD K) (zcA K) _ (by decide +kernel) (by decide +kernel) 30 48 (by decide +kernel) (by decide) 30 s9) cw_RX2_41 ⟨rfl, rfl, by decide, by decide⟩ rfl ⟨by decide, by decide⟩ ⟨Nat.le_refl _, by decide +kernel⟩ (by decide +kernel) (Nat.le_of_ble_eq_true rfl) dX2_init_72 (fun _ s10 => ?_)
  refine z_aload_n dX2_init_75 rfl rfl ?_
  refine z_getR (fs := [some (some 21), some (some 30), some (some 31), some (some 32), some (some 33), some (some 34), some (some 38)]) fl_RX2_22 (by decide +kernel) rfl dX2_init_76 ?_
  refine z_iconst dX2_init_79 (inr_d rfl) ?_
  refine z_callS (Z1 := (ZC 39 [20, 0])) (cs2 := (18, 517)) (mzJ7_fill_53178 (zl K) (zD K) (zcA K) _ (by decide +kernel) (by decide +kernel) 31 48 (by decide +kernel) (by decide) (-1) s10) cw_RX2_41 ⟨rfl, rfl, by decide, by decide⟩ rfl ⟨by decide, by decide⟩ ⟨Nat.le_refl _, by decide +kernel⟩ (by decide +kernel) (Nat.le_of_ble_eq_true rfl) dX2_init_80 (fun _ s11 => ?_)
  refine z_aload_n dX2_init_83 rfl rfl ?_
  refine z_getR (fs := [some (some 21), some (some 30), some (some 31), some (some 32), some (some 33), some (some 34), some (some 38)]) fl_RX2_25 (by decide +kernel) rfl dX2_init_84 ?_
  refine z_iconst dX2_init_87 (inr_d rfl) ?_
  refine z_callS (Z1 := (ZC 39 [20, 0])) (cs2 := (18, 517)) (mzJ7_fill_53178 (zl K) (zD K) (zcA K) _ (by decide +kernel) (by decide +kernel) 32 16 (by decide +kernel) (by decide) (-1) s11) cw_RX2_41 ⟨rfl, rfl, by decide, by decide⟩ rfl ⟨by decide, by decide⟩ ⟨Nat.le_refl _, by decide +kernel⟩ (by decide +kernel) (Nat.le_of_ble_eq_true rfl) dX2_init_88 (fun _ s12 => ?_)
  exact z_vret hq dX2_init_91
abbrev rmX6_init_40 : Room := { frames := 1, cells := 8, slots := 337, locals := 20 }
def fX6_init_40 (s0 : Mem) : Option Res :=
 lt (zm s0 41) (fun s1 =>
 lt (zm s1 42) (fun s2 =>
 lt (zm s2 43) (fun s3 =>
 lt (zm s3 44) (fun s4 =>
 lt (zm s4 45) (fun s5 =>
 lt (zm s5 46) (fun s6 =>
 lt (zm s6 47) (fun s7 =>
 lt (zm s7 48) (fun s8 =>
 some (0, s8)))))))))
set_option maxRecDepth 100000 in
set_option maxHeartbeats 4000000 in
theorem mX6_init_40 (l : Launch) (D : va_G) (cA : Nat → ClassId) (s0 : Mem) : MKZ l D cA yX6_init cX6_init 1 rmX6_init_40 (8, 337) (ZC 41 [40, 39, 0]) (ZC 49 [40, 39, 0]) [.inr (.inr 40)] s0 (fX6_init_40 s0) := by
  refine MKZ_of (own := RX6) (ls := [some (.inr (.inr 40))]) 0 (by decide +kernel) rfl rfl (fun _ => Nat.le_of_ble_eq_true rfl) (by decide +kernel) (by decide +kernel) (fun K hin hq => ?_)
  have hin := hin rfl
  unfold fX6_init_40
  refine z_aload_n dX6_init_0 rfl rfl ?_
  refine z_objInit oi_RX6_3 ⟨by decide, by decide⟩ (Nat.le_of_ble_eq_true rfl) dX6_init_1 ?_
  refine z_aload_n dX6_init_4 rfl rfl ?_
  refine z_bipush (v := 17) dX6_init_5 (by decide +kernel) (inr_d rfl) ?_
  refine z_newa (kd := 0) (N := 17) (Z2 := (ZC 42 [41, 40, 39, 0])) (cs2 := (1, 17)) acl_0 rfl rfl (fun _ _ => rfl) rfl rfl (by decide) (by decide +kernel) (by decide +kernel) (by decide +kernel) (by decide +kernel) (by decide) rfl ⟨by decide, by decide⟩ dX6_init_7 (fun s1 => ?_)
  refine z_putR (fs := [none, none, some none, some none, some none, some none, some none, some none, some none, some none]) (Z2 := (ZC 42 [40, 39, 0])) hin fpr_RX6_9 (by decide +kernel) (by decide) (by decide +kernel) (by decide +kernel) dX6_init_9 ?_
  refine z_aload_n dX6_init_12 rfl rfl ?_
  refine z_bipush (v := 48) dX6_init_13 (by decide +kernel) (inr_d rfl) ?_
  refine z_newa (kd := 0) (N := 48) (Z2 := (ZC 43 [42, 40, 39, 0])) (cs2 := (2, 65)) acl_0 rfl rfl (fun _ _ => rfl) rfl rfl (by decide) (by decide +kernel) (by decide +kernel) (by decide +kernel) (by decide +kernel) (by decide) rfl ⟨by decide, by decide⟩ dX6_init_15 (fun s2 => ?_)
  refine z_putR (fs := [none, none, some (some 41), some none, some none, some none, some none, some none, some none, some none]) (Z2 := (ZC 43 [40, 39, 0])) hin fpr_RX6_15 (by decide +kernel) (by decide) (by decide +kernel) (by decide +kernel) dX6_init_17 ?_
  refine z_aload_n dX6_init_20 rfl rfl ?_
  refine z_bipush (v := 16) dX6_init_21 (by decide +kernel) (inr_d rfl) ?_
  refine z_newa (kd := 0) (N := 16) (Z2 := (ZC 44 [43, 40, 39, 0])) (cs2 := (3, 81)) acl_0 rfl rfl (fun _ _ => rfl) rfl rfl (by decide) (by decide +kernel) (by decide +kernel) (by decide +kernel) (by decide +kernel) (by decide) rfl ⟨by decide, by decide⟩ dX6_init_23 (fun s3 => ?_)
  refine z_putR (fs := [none, none, some (some 41), some (some 42), some none, some none, some none, some none, some none, some none]) (Z2 := (ZC 44 [40, 39, 0])) hin fpr_RX6_18 (by decide +kernel) (by decide) (by decide +kernel) (by decide +kernel) dX6_init_25 ?_
  refine z_aload_n dX6_init_28 rfl rfl ?_
  refine z_bipush (v := 48) dX6_init_29 (by decide +kernel) (inr_d rfl) ?_
  refine z_newa (kd := 0) (N := 48) (Z2 := (ZC 45 [44, 40, 39, 0])) (cs2 := (4, 129)) acl_0 rfl rfl (fun _ _ => rfl) rfl rfl (by decide) (by decide +kernel) (by decide +kernel) (by decide +kernel) (by decide +kernel) (by decide) rfl ⟨by decide, by decide⟩ dX6_init_31 (fun s4 => ?_)
  refine z_putR (fs := [none, none, some (some 41), some (some 42), some (some 43), some none, some none, some none, some none, some none]) (Z2 := (ZC 45 [40, 39, 0])) hin fpr_RX6_21 (by decide +kernel) (by decide) (by decide +kernel) (by decide +kernel) dX6_init_33 ?_
  refine z_aload_n dX6_init_36 rfl rfl ?_
  refine z_bipush (v := 16) dX6_init_37 (by decide +kernel) (inr_d rfl) ?_
  refine z_newa (kd := 0) (N := 16) (Z2 := (ZC 46 [45, 40, 39, 0])) (cs2 := (5, 145)) acl_0 rfl rfl (fun _ _ => rfl) rfl rfl (by decide) (by decide +kernel) (by decide +kernel) (by decide +kernel) (by decide +kernel) (by decide) rfl ⟨by decide, by decide⟩ dX6_init_39 (fun s5 => ?_)
  refine z_putR (fs := [none, none, some (some 41), some (some 42), some (some 43), some (some 44), some none, some none, some none, some none]) (Z2 := (ZC 46 [40, 39, 0])) hin fpr_RX6_24 (by decide +kernel) (by decide) (by decide +kernel) (by decide +kernel) dX6_init_41 ?_
  refine z_aload_n dX6_init_44 rfl rfl ?_
  refine z_bipush (v := 64) dX6_init_45 (by decide +kernel) (inr_d rfl) ?_
  refine z_newa (kd := 0) (N := 64) (Z2 := (ZC 47 [46, 40, 39, 0])) (cs2 := (6, 209)) acl_0 rfl rfl (fun _ _ => rfl) rfl rfl (by decide) (by decide +kernel) (by decide +kernel) (by decide +kernel) (by decide +kernel) (by decide) rfl ⟨by decide, by decide⟩ dX6_init_47 (fun s6 => ?_)
  refine z_putR (fs := [none, none, some (some 41), some (some 42), some (some 43), some (some 44), some (some 45), some none, some none, some none]) (Z2 := (ZC 47 [40, 39, 0])) hin fpr_RX6_27 (by decide +kernel) (by decide) (by decide +kernel) (by decide +kernel) dX6_init_49 ?_
  refine z_aload_n dX6_init_52 rfl rfl ?_
  refine z_bipush (v := 64) dX6_init_53 (by decide +kernel) (inr_d rfl) ?_
  refine z_newa (kd := 0) (N := 64) (Z2 := (ZC 48 [47, 40, 39, 0])) (cs2 := (7, 273)) acl_0 rfl rfl (fun _ _ => rfl) rfl rfl (by decide) (by decide +kernel) (by decide +kernel) (by decide +kernel) (by decide +kernel) (by decide) rfl ⟨by decide, by decide⟩ dX6_init_55 (fun s7 => ?_)
  refine z_putR (fs := [none, none, some (some 41), some (some 42), some (some 43), some (some 44), some (some 45), some (some 46), some none, some none]) (Z2 := (ZC 48 [40, 39, 0])) hin fpr_RX6_30 (by decide +kernel) (by decide) (by decide +kernel) (by decide +kernel) dX6_init_57 ?_
  refine z_aload_n dX6_init_60 rfl rfl ?_
  refine z_bipush (v := 64) dX6_init_61 (by decide +kernel) (inr_d rfl) ?_
  refine z_newa (kd := 0) (N := 64) (Z2 := (ZC 49 [48, 40, 39, 0])) (cs2 := (8, 337)) acl_0 rfl rfl (fun _ _ => rfl) rfl rfl (by decide) (by decide +kernel) (by decide +kernel) (by decide +kernel) (by decide +kernel) (by decide) rfl ⟨by decide, by decide⟩ dX6_init_63 (fun s8 => ?_)
  refine z_putR (fs := [none, none, some (some 41), some (some 42), some (some 43), some (some 44), some (some 45), some (some 46), some (some 47), some none]) (Z2 := (ZC 49 [40, 39, 0])) hin fpr_RX6_33 (by decide +kernel) (by decide) (by decide +kernel) (by decide +kernel) dX6_init_65 ?_
  exact z_vret hq dX6_init_68
abbrev rmX5_init_53 : Room := { frames := 1, cells := 3, slots := 24, locals := 20 }
def fX5_init_53 (s0 : Mem) : Option Res :=
 lt (zm s0 54) (fun s1 =>
 lt (zm s1 55) (fun s2 =>
 lt (zm s2 56) (fun s3 =>
 some (0, s3))))
set_option maxRecDepth 100000 in
set_option maxHeartbeats 4000000 in
theorem mX5_init_53 (l : Launch) (D : va_G) (cA : Nat → ClassId) (s0 : Mem) : MKZ l D cA yX5_init cX5_init 1 rmX5_init_53 (3, 24) (ZC 54 [53, 39, 0]) (ZC 57 [53, 39, 0]) [.inr (.inr 53)] s0 (fX5_init_53 s0) := by
  refine MKZ_of (own := RX5) (ls := [some (.inr (.inr 53))]) 0 (by decide +kernel) rfl rfl (fun _ => Nat.le_of_ble_eq_true rfl) (by decide +kernel) (by decide +kernel) (fun K hin hq => ?_)
  have hin := hin rfl
  unfold fX5_init_53
  refine z_aload_n dX5_init_0 rfl rfl ?_
  refine z_objInit oi_RX5_3 ⟨by decide, by decide⟩ (Nat.le_of_ble_eq_true rfl) dX5_init_1 ?_
  refine z_aload_n dX5_init_4 rfl rfl ?_
  refine z_bipush (v := 8) dX5_init_5 (by decide +kernel) (inr_d rfl) ?_
  refine z_newa (kd := 0) (N := 8) (Z2 := (ZC 55 [54, 53, 39, 0])) (cs2 := (1, 8)) acl_0 rfl rfl (fun _ _ => rfl) rfl rfl (by decide) (by decide +kernel) (by decide +kernel) (by decide +kernel) (by decide +kernel) (by decide) rfl ⟨by decide, by decide⟩ dX5_init_7 (fun s1 => ?_)
  refine z_putR (fs := [some none, some none, some none]) (Z2 := (ZC 55 [53, 39, 0])) hin fpr_RX5_9 (by decide +kernel) (by decide) (by decide +kernel) (by decide +kernel) dX5_init_9 ?_
  refine z_aload_n dX5_init_12 rfl rfl ?_
  refine z_bipush (v := 8) dX5_init_13 (by decide +kernel) (inr_d rfl) ?_
  refine z_newa (kd := 0) (N := 8) (Z2 := (ZC 56 [55, 53, 39, 0])) (cs2 := (2, 16)) acl_0 rfl rfl (fun _ _ => rfl) rfl rfl (by decide) (by decide +kernel) (by decide +kernel) (by decide +kernel) (by decide +kernel) (by decide) rfl ⟨by decide, by decide⟩ dX5_init_15 (fun s2 => ?_)
  refine z_putR (fs := [some (some 54), some none, some none]) (Z2 := (ZC 56 [53, 39, 0])) hin fpr_RX5_15 (by decide +kernel) (by decide) (by decide +kernel) (by decide +kernel) dX5_init_17 ?_
  refine z_aload_n dX5_init_20 rfl rfl ?_
  refine z_bipush (v := 8) dX5_init_21 (by decide +kernel) (inr_d rfl) ?_
  refine z_newa (kd := 2) (N := 8) (Z2 := (ZC 57 [56, 53, 39, 0])) (cs2 := (3, 24)) acl_2 rfl rfl (fun _ _ => rfl) rfl rfl (by decide) (by decide +kernel) (by decide +kernel) (by decide +kernel) (by decide +kernel) (by decide) rfl ⟨by decide, by decide⟩ dX5_init_23 (fun s3 => ?_)
  refine z_putR (fs := [some (some 54), some (some 55), some none]) (Z2 := (ZC 57 [53, 39, 0])) hin fpr_RX5_18 (by decide +kernel) (by decide) (by decide +kernel) (by decide +kernel) dX5_init_25 ?_
  exact z_vret hq dX5_init_28
abbrev rmX2_init_39 : Room := { frames := 2, cells := 18, slots := 517, locals := 40 }
def fX2_init_39 (s0 : Mem) : Option Res :=
 lt (zm s0 40) (fun s1 =>
 bnd (fX6_init_40 s1) (fun _ s2 =>
 lt (zm s2 49) (fun s3 =>
 lt (zm s3 50) (fun s4 =>
 lt (zm s4 51) (fun s5 =>
 lt (zm s5 52) (fun s6 =>
 lt (zm s6 53) (fun s7 =>
 bnd (fX5_init_53 s7) (fun _ s8 =>
 lt (zm s8 57) (fun s9 =>
 bnd (fzJ7_fill_53178 49 48 30 s9) (fun _ s10 =>
 bnd (fzJ7_fill_53178 50 48 (-1) s10) (fun _ s11 =>
 bnd (fzJ7_fill_53178 51 16 (-1) s11) (fun _ s12 =>
 some (0, s12)))))))))))))
set_option maxRecDepth 100000 in
set_option maxHeartbeats 4000000 in
theorem mX2_init_39 (l : Launch) (D : va_G) (cA : Nat → ClassId) (s0 : Mem) : MKZ l D cA yX2_init cX2_init 1 rmX2_init_39 (18, 517) (ZC 40 [39, 0]) (ZC 58 [39, 0]) [.inr (.inr 39)] s0 (fX2_init_39 s0) := by
  refine MKZ_of (own := RX2) (ls := [some (.inr (.inr 39))]) 0 (by decide +kernel) rfl rfl (fun _ => Nat.le_of_ble_eq_true rfl) (by decide +kernel) (by decide +kernel) (fun K hin hq => ?_)
  have hin := hin rfl
  unfold fX2_init_39
  refine z_aload_n dX2_init_0 rfl rfl ?_
  refine z_objInit oi_RX2_3 ⟨by decide, by decide⟩ (Nat.le_of_ble_eq_true rfl) dX2_init_1 ?_
  refine z_aload_n dX2_init_4 rfl rfl ?_
  refine z_new (ci := 6) (fs := [none, none, some none, some none, some none, some none, some none, some none, some none, some none]) (Z2 := (ZC 41 [40, 39, 0])) (cs2 := (1, 10)) nw_RX2_9 rfl lays_6 tyX6_ok (by decide +kernel) (by decide +kernel) (by decide +kernel) (by decide +kernel) (by decide) rfl ⟨by decide, by decide⟩ dX2_init_5 (fun s1 => ?_)
  refine z_dup dX2_init_8 ?_
  refine z_callN (Z1 := (ZC 49 [40, 39, 0])) (cs2 := (9, 347)) (mX6_init_40 (zl K) (zD K) (zcA K) s1) ci_RX2_11 ⟨rfl, rfl, by decide, by decide⟩ rfl ⟨by decide, by decide⟩ ⟨by decide +kernel, by decide +kernel⟩ (by decide +kernel) (Nat.le_of_ble_eq_true rfl) dX2_init_9 (fun _ s2 => ?_)
  refine z_putR (fs := [some none, some none, some none, some none, some none, some none, some none]) (Z2 := (ZC 49 [39, 0])) hin fpr_RX2_12 (by decide +kernel) (by decide) (by decide +kernel) (by decide +kernel) dX2_init_12 ?_
  refine z_aload_n dX2_init_15 rfl rfl ?_
  refine z_bipush (v := 48) dX2_init_16 (by decide +kernel) (inr_d rfl) ?_
  refine z_newa (kd := 0) (N := 48) (Z2 := (ZC 50 [49, 39, 0])) (cs2 := (10, 395)) acl_0 rfl rfl (fun _ _ => rfl) rfl rfl (by decide) (by decide +kernel) (by decide +kernel) (by decide +kernel) (by decide +kernel) (by decide) rfl ⟨by decide, by decide⟩ dX2_init_18 (fun s3 => ?_)
  refine z_putR (fs := [some (some 40), some none, some none, some none, some none, some none, some none]) (Z2 := (ZC 50 [39, 0])) hin fpr_RX2_18 (by decide +kernel) (by decide) (by decide +kernel) (by decide +kernel) dX2_init_20 ?_
  refine z_aload_n dX2_init_23 rfl rfl ?_
  refine z_bipush (v := 48) dX2_init_24 (by decide +kernel) (inr_d rfl) ?_
  refine z_newa (kd := 0) (N := 48) (Z2 := (ZC 51 [50, 39, 0])) (cs2 := (11, 443)) acl_0 rfl rfl (fun _ _ => rfl) rfl rfl (by decide) (by decide +kernel) (by decide +kernel) (by decide +kernel) (by decide +kernel) (by decide) rfl ⟨by decide, by decide⟩ dX2_init_26 (fun s4 => ?_)
  refine z_putR (fs := [some (some 40), some (some 49), some none, some none, some none, some none, some none]) (Z2 := (ZC 51 [39, 0])) hin fpr_RX2_22 (by decide +kernel) (by decide) (by decide +kernel) (by decide +kernel) dX2_init_28 ?_
  refine z_aload_n dX2_init_31 rfl rfl ?_
  refine z_bipush (v := 16) dX2_init_32 (by decide +kernel) (inr_d rfl) ?_
  refine z_newa (kd := 0) (N := 16) (Z2 := (ZC 52 [51, 39, 0])) (cs2 := (12, 459)) acl_0 rfl rfl (fun _ _ => rfl) rfl rfl (by decide) (by decide +kernel) (by decide +kernel) (by decide +kernel) (by decide +kernel) (by decide) rfl ⟨by decide, by decide⟩ dX2_init_34 (fun s5 => ?_)
  refine z_putR (fs := [some (some 40), some (some 49), some (some 50), some none, some none, some none, some none]) (Z2 := (ZC 52 [39, 0])) hin fpr_RX2_25 (by decide +kernel) (by decide) (by decide +kernel) (by decide +kernel) dX2_init_36 ?_
  refine z_aload_n dX2_init_39 rfl rfl ?_
  refine z_bipush (v := 16) dX2_init_40 (by decide +kernel) (inr_d rfl) ?_
  refine z_newa (kd := 0) (N := 16) (Z2 := (ZC 53 [52, 39, 0])) (cs2 := (13, 475)) acl_0 rfl rfl (fun _ _ => rfl) rfl rfl (by decide) (by decide +kernel) (by decide +kernel) (by decide +kernel) (by decide +kernel) (by decide) rfl ⟨by decide, by decide⟩ dX2_init_42 (fun s6 => ?_)
  refine z_putR (fs := [some (some 40), some (some 49), some (some 50), some (some 51), some none, some none, some none]) (Z2 := (ZC 53 [39, 0])) hin fpr_RX2_28 (by decide +kernel) (by decide) (by decide +kernel) (by decide +kernel) dX2_init_44 ?_
  refine z_aload_n dX2_init_47 rfl rfl ?_
  refine z_new (ci := 5) (fs := [some none, some none, some none]) (Z2 := (ZC 54 [53, 39, 0])) (cs2 := (14, 478)) nw_RX2_31 rfl lays_5 tyX5_ok (by decide +kernel) (by decide +kernel) (by decide +kernel) (by decide +kernel) (by decide) rfl ⟨by decide, by decide⟩ dX2_init_48 (fun s7 => ?_)
  refine z_dup dX2_init_51 ?_
  refine z_callN (Z1 := (ZC 57 [53, 39, 0])) (cs2 := (17, 502)) (mX5_init_53 (zl K) (zD K) (zcA K) s7) ci_RX2_33 ⟨rfl, rfl, by decide, by decide⟩ rfl ⟨by decide, by decide⟩ ⟨by decide +kernel, by decide +kernel⟩ (by decide +kernel) (Nat.le_of_ble_eq_true rfl) dX2_init_52 (fun _ s8 => ?_)
  refine z_putR (fs := [some (some 40), some (some 49), some (some 50), some (some 51), some (some 52), some none, some none]) (Z2 := (ZC 57 [39, 0])) hin fpr_RX2_34 (by decide +kernel) (by decide) (by decide +kernel) (by decide +kernel) dX2_init_55 ?_
  refine z_aload_n dX2_init_58 rfl rfl ?_
  refine z_bipush (v := 15) dX2_init_59 (by decide +kernel) (inr_d rfl) ?_
  refine z_newa (kd := 0) (N := 15) (Z2 := (ZC 58 [57, 39, 0])) (cs2 := (18, 517)) acl_0 rfl rfl (fun _ _ => rfl) rfl rfl (by decide) (by decide +kernel) (by decide +kernel) (by decide +kernel) (by decide +kernel) (by decide) rfl ⟨by decide, by decide⟩ dX2_init_61 (fun s9 => ?_)
  refine z_putR (fs := [some (some 40), some (some 49), some (some 50), some (some 51), some (some 52), some (some 53), some none]) (Z2 := (ZC 58 [39, 0])) hin fpr_RX2_38 (by decide +kernel) (by decide) (by decide +kernel) (by decide +kernel) dX2_init_63 ?_
  refine z_aload_n dX2_init_66 rfl rfl ?_
  refine z_getR (fs := [some (some 40), some (some 49), some (some 50), some (some 51), some (some 52), some (some 53), some (some 57)]) fl_RX2_18 (by decide +kernel) rfl dX2_init_67 ?_
  refine z_bipush (v := 30) dX2_init_70 (by decide +kernel) (inr_d rfl) ?_
  refine z_callS (Z1 := (ZC 58 [39, 0])) (cs2 := (18, 517)) (mzJ7_fill_53178 (zl K) (zD K) (zcA K) _ (by decide +kernel) (by decide +kernel) 49 48 (by decide +kernel) (by decide) 30 s9) cw_RX2_41 ⟨rfl, rfl, by decide, by decide⟩ rfl ⟨by decide, by decide⟩ ⟨Nat.le_refl _, by decide +kernel⟩ (by decide +kernel) (Nat.le_of_ble_eq_true rfl) dX2_init_72 (fun _ s10 => ?_)
  refine z_aload_n dX2_init_75 rfl rfl ?_
  refine z_getR (fs := [some (some 40), some (some 49), some (some 50), some (some 51), some (some 52), some (some 53), some (some 57)]) fl_RX2_22 (by decide +kernel) rfl dX2_init_76 ?_
  refine z_iconst dX2_init_79 (inr_d rfl) ?_
  refine z_callS (Z1 := (ZC 58 [39, 0])) (cs2 := (18, 517)) (mzJ7_fill_53178 (zl K) (zD K) (zcA K) _ (by decide +kernel) (by decide +kernel) 50 48 (by decide +kernel) (by decide) (-1) s10) cw_RX2_41 ⟨rfl, rfl, by decide, by decide⟩ rfl ⟨by decide, by decide⟩ ⟨Nat.le_refl _, by decide +kernel⟩ (by decide +kernel) (Nat.le_of_ble_eq_true rfl) dX2_init_80 (fun _ s11 => ?_)
  refine z_aload_n dX2_init_83 rfl rfl ?_
  refine z_getR (fs := [some (some 40), some (some 49), some (some 50), some (some 51), some (some 52), some (some 53), some (some 57)]) fl_RX2_25 (by decide +kernel) rfl dX2_init_84 ?_
  refine z_iconst dX2_init_87 (inr_d rfl) ?_
  refine z_callS (Z1 := (ZC 58 [39, 0])) (cs2 := (18, 517)) (mzJ7_fill_53178 (zl K) (zD K) (zcA K) _ (by decide +kernel) (by decide +kernel) 51 16 (by decide +kernel) (by decide) (-1) s11) cw_RX2_41 ⟨rfl, rfl, by decide, by decide⟩ rfl ⟨by decide, by decide⟩ ⟨Nat.le_refl _, by decide +kernel⟩ (by decide +kernel) (Nat.le_of_ble_eq_true rfl) dX2_init_88 (fun _ s12 => ?_)
  exact z_vret hq dX2_init_91
abbrev rmX6_init_59 : Room := { frames := 1, cells := 8, slots := 337, locals := 20 }
def fX6_init_59 (s0 : Mem) : Option Res :=
 lt (zm s0 60) (fun s1 =>
 lt (zm s1 61) (fun s2 =>
 lt (zm s2 62) (fun s3 =>
 lt (zm s3 63) (fun s4 =>
 lt (zm s4 64) (fun s5 =>
 lt (zm s5 65) (fun s6 =>
 lt (zm s6 66) (fun s7 =>
 lt (zm s7 67) (fun s8 =>
 some (0, s8)))))))))
set_option maxRecDepth 100000 in
set_option maxHeartbeats 4000000 in
theorem mX6_init_59 (l : Launch) (D : va_G) (cA : Nat → ClassId) (s0 : Mem) : MKZ l D cA yX6_init cX6_init 1 rmX6_init_59 (8, 337) (ZC 60 [59, 58, 0]) (ZC 68 [59, 58, 0]) [.inr (.inr 59)] s0 (fX6_init_59 s0) := by
  refine MKZ_of (own := RX6) (ls := [some (.inr (.inr 59))]) 0 (by decide +kernel) rfl rfl (fun _ => Nat.le_of_ble_eq_true rfl) (by decide +kernel) (by decide +kernel) (fun K hin hq => ?_)
  have hin := hin rfl
  unfold fX6_init_59
  refine z_aload_n dX6_init_0 rfl rfl ?_
  refine z_objInit oi_RX6_3 ⟨by decide, by decide⟩ (Nat.le_of_ble_eq_true rfl) dX6_init_1 ?_
  refine z_aload_n dX6_init_4 rfl rfl ?_
  refine z_bipush (v := 17) dX6_init_5 (by decide +kernel) (inr_d rfl) ?_
  refine z_newa (kd := 0) (N := 17) (Z2 := (ZC 61 [60, 59, 58, 0])) (cs2 := (1, 17)) acl_0 rfl rfl (fun _ _ => rfl) rfl rfl (by decide) (by decide +kernel) (by decide +kernel) (by decide +kernel) (by decide +kernel) (by decide) rfl ⟨by decide, by decide⟩ dX6_init_7 (fun s1 => ?_)
  refine z_putR (fs := [none, none, some none, some none, some none, some none, some none, some none, some none, some none]) (Z2 := (ZC 61 [59, 58, 0])) hin fpr_RX6_9 (by decide +kernel) (by decide) (by decide +kernel) (by decide +kernel) dX6_init_9 ?_
  refine z_aload_n dX6_init_12 rfl rfl ?_
  refine z_bipush (v := 48) dX6_init_13 (by decide +kernel) (inr_d rfl) ?_
  refine z_newa (kd := 0) (N := 48) (Z2 := (ZC 62 [61, 59, 58, 0])) (cs2 := (2, 65)) acl_0 rfl rfl (fun _ _ => rfl) rfl rfl (by decide) (by decide +kernel) (by decide +kernel) (by decide +kernel) (by decide +kernel) (by decide) rfl ⟨by decide, by decide⟩ dX6_init_15 (fun s2 => ?_)
  refine z_putR (fs := [none, none, some (some 60), some none, some none, some none, some none, some none, some none, some none]) (Z2 := (ZC 62 [59, 58, 0])) hin fpr_RX6_15 (by decide +kernel) (by decide) (by decide +kernel) (by decide +kernel) dX6_init_17 ?_
  refine z_aload_n dX6_init_20 rfl rfl ?_
  refine z_bipush (v := 16) dX6_init_21 (by decide +kernel) (inr_d rfl) ?_
  refine z_newa (kd := 0) (N := 16) (Z2 := (ZC 63 [62, 59, 58, 0])) (cs2 := (3, 81)) acl_0 rfl rfl (fun _ _ => rfl) rfl rfl (by decide) (by decide +kernel) (by decide +kernel) (by decide +kernel) (by decide +kernel) (by decide) rfl ⟨by decide, by decide⟩ dX6_init_23 (fun s3 => ?_)
  refine z_putR (fs := [none, none, some (some 60), some (some 61), some none, some none, some none, some none, some none, some none]) (Z2 := (ZC 63 [59, 58, 0])) hin fpr_RX6_18 (by decide +kernel) (by decide) (by decide +kernel) (by decide +kernel) dX6_init_25 ?_
  refine z_aload_n dX6_init_28 rfl rfl ?_
  refine z_bipush (v := 48) dX6_init_29 (by decide +kernel) (inr_d rfl) ?_
  refine z_newa (kd := 0) (N := 48) (Z2 := (ZC 64 [63, 59, 58, 0])) (cs2 := (4, 129)) acl_0 rfl rfl (fun _ _ => rfl) rfl rfl (by decide) (by decide +kernel) (by decide +kernel) (by decide +kernel) (by decide +kernel) (by decide) rfl ⟨by decide, by decide⟩ dX6_init_31 (fun s4 => ?_)
  refine z_putR (fs := [none, none, some (some 60), some (some 61), some (some 62), some none, some none, some none, some none, some none]) (Z2 := (ZC 64 [59, 58, 0])) hin fpr_RX6_21 (by decide +kernel) (by decide) (by decide +kernel) (by decide +kernel) dX6_init_33 ?_
  refine z_aload_n dX6_init_36 rfl rfl ?_
  refine z_bipush (v := 16) dX6_init_37 (by decide +kernel) (inr_d rfl) ?_
  refine z_newa (kd := 0) (N := 16) (Z2 := (ZC 65 [64, 59, 58, 0])) (cs2 := (5, 145)) acl_0 rfl rfl (fun _ _ => rfl) rfl rfl (by decide) (by decide +kernel) (by decide +kernel) (by decide +kernel) (by decide +kernel) (by decide) rfl ⟨by decide, by decide⟩ dX6_init_39 (fun s5 => ?_)
  refine z_putR (fs := [none, none, some (some 60), some (some 61), some (some 62), some (some 63), some none, some none, some none, some none]) (Z2 := (ZC 65 [59, 58, 0])) hin fpr_RX6_24 (by decide +kernel) (by decide) (by decide +kernel) (by decide +kernel) dX6_init_41 ?_
  refine z_aload_n dX6_init_44 rfl rfl ?_
  refine z_bipush (v := 64) dX6_init_45 (by decide +kernel) (inr_d rfl) ?_
  refine z_newa (kd := 0) (N := 64) (Z2 := (ZC 66 [65, 59, 58, 0])) (cs2 := (6, 209)) acl_0 rfl rfl (fun _ _ => rfl) rfl rfl (by decide) (by decide +kernel) (by decide +kernel) (by decide +kernel) (by decide +kernel) (by decide) rfl ⟨by decide, by decide⟩ dX6_init_47 (fun s6 => ?_)
  refine z_putR (fs := [none, none, some (some 60), some (some 61), some (some 62), some (some 63), some (some 64), some none, some none, some none]) (Z2 := (ZC 66 [59, 58, 0])) hin fpr_RX6_27 (by decide +kernel) (by decide) (by decide +kernel) (by decide +kernel) dX6_init_49 ?_
  refine z_aload_n dX6_init_52 rfl rfl ?_
  refine z_bipush (v := 64) dX6_init_53 (by decide +kernel) (inr_d rfl) ?_
  refine z_newa (kd := 0) (N := 64) (Z2 := (ZC 67 [66, 59, 58, 0])) (cs2 := (7, 273)) acl_0 rfl rfl (fun _ _ => rfl) rfl rfl (by decide) (by decide +kernel) (by decide +kernel) (by decide +kernel) (by decide +kernel) (by decide) rfl ⟨by decide, by decide⟩ dX6_init_55 (fun s7 => ?_)
  refine z_putR (fs := [none, none, some (some 60), some (some 61), some (some 62), some (some 63), some (some 64), some (some 65), some none, some none]) (Z2 := (ZC 67 [59, 58, 0])) hin fpr_RX6_30 (by decide +kernel) (by decide) (by decide +kernel) (by decide +kernel) dX6_init_57 ?_
  refine z_aload_n dX6_init_60 rfl rfl ?_
  refine z_bipush (v := 64) dX6_init_61 (by decide +kernel) (inr_d rfl) ?_
  refine z_newa (kd := 0) (N := 64) (Z2 := (ZC 68 [67, 59, 58, 0])) (cs2 := (8, 337)) acl_0 rfl rfl (fun _ _ => rfl) rfl rfl (by decide) (by decide +kernel) (by decide +kernel) (by decide +kernel) (by decide +kernel) (by decide) rfl ⟨by decide, by decide⟩ dX6_init_63 (fun s8 => ?_)
  refine z_putR (fs := [none, none, some (some 60), some (some 61), some (some 62), some (some 63), some (some 64), some (some 65), some (some 66), some none]) (Z2 := (ZC 68 [59, 58, 0])) hin fpr_RX6_33 (by decide +kernel) (by decide) (by decide +kernel) (by decide +kernel) dX6_init_65 ?_
  exact z_vret hq dX6_init_68
abbrev rmX5_init_72 : Room := { frames := 1, cells := 3, slots := 24, locals := 20 }
def fX5_init_72 (s0 : Mem) : Option Res :=
 lt (zm s0 73) (fun s1 =>
 lt (zm s1 74) (fun s2 =>
 lt (zm s2 75) (fun s3 =>
 some (0, s3))))
set_option maxRecDepth 100000 in
set_option maxHeartbeats 4000000 in
theorem mX5_init_72 (l : Launch) (D : va_G) (cA : Nat → ClassId) (s0 : Mem) : MKZ l D cA yX5_init cX5_init 1 rmX5_init_72 (3, 24) (ZC 73 [72, 58, 0]) (ZC 76 [72, 58, 0]) [.inr (.inr 72)] s0 (fX5_init_72 s0) := by
  refine MKZ_of (own := RX5) (ls := [some (.inr (.inr 72))]) 0 (by decide +kernel) rfl rfl (fun _ => Nat.le_of_ble_eq_true rfl) (by decide +kernel) (by decide +kernel) (fun K hin hq => ?_)
  have hin := hin rfl
  unfold fX5_init_72
  refine z_aload_n dX5_init_0 rfl rfl ?_
  refine z_objInit oi_RX5_3 ⟨by decide, by decide⟩ (Nat.le_of_ble_eq_true rfl) dX5_init_1 ?_
  refine z_aload_n dX5_init_4 rfl rfl ?_
  refine z_bipush (v := 8) dX5_init_5 (by decide +kernel) (inr_d rfl) ?_
  refine z_newa (kd := 0) (N := 8) (Z2 := (ZC 74 [73, 72, 58, 0])) (cs2 := (1, 8)) acl_0 rfl rfl (fun _ _ => rfl) rfl rfl (by decide) (by decide +kernel) (by decide +kernel) (by decide +kernel) (by decide +kernel) (by decide) rfl ⟨by decide, by decide⟩ dX5_init_7 (fun s1 => ?_)
  refine z_putR (fs := [some none, some none, some none]) (Z2 := (ZC 74 [72, 58, 0])) hin fpr_RX5_9 (by decide +kernel) (by decide) (by decide +kernel) (by decide +kernel) dX5_init_9 ?_
  refine z_aload_n dX5_init_12 rfl rfl ?_
  refine z_bipush (v := 8) dX5_init_13 (by decide +kernel) (inr_d rfl) ?_
  refine z_newa (kd := 0) (N := 8) (Z2 := (ZC 75 [74, 72, 58, 0])) (cs2 := (2, 16)) acl_0 rfl rfl (fun _ _ => rfl) rfl rfl (by decide) (by decide +kernel) (by decide +kernel) (by decide +kernel) (by decide +kernel) (by decide) rfl ⟨by decide, by decide⟩ dX5_init_15 (fun s2 => ?_)
  refine z_putR (fs := [some (some 73), some none, some none]) (Z2 := (ZC 75 [72, 58, 0])) hin fpr_RX5_15 (by decide +kernel) (by decide) (by decide +kernel) (by decide +kernel) dX5_init_17 ?_
  refine z_aload_n dX5_init_20 rfl rfl ?_
  refine z_bipush (v := 8) dX5_init_21 (by decide +kernel) (inr_d rfl) ?_
  refine z_newa (kd := 2) (N := 8) (Z2 := (ZC 76 [75, 72, 58, 0])) (cs2 := (3, 24)) acl_2 rfl rfl (fun _ _ => rfl) rfl rfl (by decide) (by decide +kernel) (by decide +kernel) (by decide +kernel) (by decide +kernel) (by decide) rfl ⟨by decide, by decide⟩ dX5_init_23 (fun s3 => ?_)
  refine z_putR (fs := [some (some 73), some (some 74), some none]) (Z2 := (ZC 76 [72, 58, 0])) hin fpr_RX5_18 (by decide +kernel) (by decide) (by decide +kernel) (by decide +kernel) dX5_init_25 ?_
  exact z_vret hq dX5_init_28
abbrev rmX2_init_58 : Room := { frames := 2, cells := 18, slots := 517, locals := 40 }
def fX2_init_58 (s0 : Mem) : Option Res :=
 lt (zm s0 59) (fun s1 =>
 bnd (fX6_init_59 s1) (fun _ s2 =>
 lt (zm s2 68) (fun s3 =>
 lt (zm s3 69) (fun s4 =>
 lt (zm s4 70) (fun s5 =>
 lt (zm s5 71) (fun s6 =>
 lt (zm s6 72) (fun s7 =>
 bnd (fX5_init_72 s7) (fun _ s8 =>
 lt (zm s8 76) (fun s9 =>
 bnd (fzJ7_fill_53178 68 48 30 s9) (fun _ s10 =>
 bnd (fzJ7_fill_53178 69 48 (-1) s10) (fun _ s11 =>
 bnd (fzJ7_fill_53178 70 16 (-1) s11) (fun _ s12 =>
 some (0, s12)))))))))))))
set_option maxRecDepth 100000 in
set_option maxHeartbeats 4000000 in
theorem mX2_init_58 (l : Launch) (D : va_G) (cA : Nat → ClassId) (s0 : Mem) : MKZ l D cA yX2_init cX2_init 1 rmX2_init_58 (18, 517) (ZC 59 [58, 0]) (ZC 77 [58, 0]) [.inr (.inr 58)] s0 (fX2_init_58 s0) := by
  refine MKZ_of (own := RX2) (ls := [some (.inr (.inr 58))]) 0 (by decide +kernel) rfl rfl (fun _ => Nat.le_of_ble_eq_true rfl) (by decide +kernel) (by decide +kernel) (fun K hin hq => ?_)
  have hin := hin rfl
  unfold fX2_init_58
  refine z_aload_n dX2_init_0 rfl rfl ?_
  refine z_objInit oi_RX2_3 ⟨by decide, by decide⟩ (Nat.le_of_ble_eq_true rfl) dX2_init_1 ?_
  refine z_aload_n dX2_init_4 rfl rfl ?_
  refine z_new (ci := 6) (fs := [none, none, some none, some none, some none, some none, some none, some none, some none, some none]) (Z2 := (ZC 60 [59, 58, 0])) (cs2 := (1, 10)) nw_RX2_9 rfl lays_6 tyX6_ok (by decide +kernel) (by decide +kernel) (by decide +kernel) (by decide +kernel) (by decide) rfl ⟨by decide, by decide⟩ dX2_init_5 (fun s1 => ?_)
  refine z_dup dX2_init_8 ?_
  refine z_callN (Z1 := (ZC 68 [59, 58, 0])) (cs2 := (9, 347)) (mX6_init_59 (zl K) (zD K) (zcA K) s1) ci_RX2_11 ⟨rfl, rfl, by decide, by decide⟩ rfl ⟨by decide, by decide⟩ ⟨by decide +kernel, by decide +kernel⟩ (by decide +kernel) (Nat.le_of_ble_eq_true rfl) dX2_init_9 (fun _ s2 => ?_)
  refine z_putR (fs := [some none, some none, some none, some none, some none, some none, some none]) (Z2 := (ZC 68 [58, 0])) hin fpr_RX2_12 (by decide +kernel) (by decide) (by decide +kernel) (by decide +kernel) dX2_init_12 ?_
  refine z_aload_n dX2_init_15 rfl rfl ?_
  refine z_bipush (v := 48) dX2_init_16 (by decide +kernel) (inr_d rfl) ?_
  refine z_newa (kd := 0) (N := 48) (Z2 := (ZC 69 [68, 58, 0])) (cs2 := (10, 395)) acl_0 rfl rfl (fun _ _ => rfl) rfl rfl (by decide) (by decide +kernel) (by decide +kernel) (by decide +kernel) (by decide +kernel) (by decide) rfl ⟨by decide, by decide⟩ dX2_init_18 (fun s3 => ?_)
  refine z_putR (fs := [some (some 59), some none, some none, some none, some none, some none, some none]) (Z2 := (ZC 69 [58, 0])) hin fpr_RX2_18 (by decide +kernel) (by decide) (by decide +kernel) (by decide +kernel) dX2_init_20 ?_
  refine z_aload_n dX2_init_23 rfl rfl ?_
  refine z_bipush (v := 48) dX2_init_24 (by decide +kernel) (inr_d rfl) ?_
  refine z_newa (kd := 0) (N := 48) (Z2 := (ZC 70 [69, 58, 0])) (cs2 := (11, 443)) acl_0 rfl rfl (fun _ _ => rfl) rfl rfl (by decide) (by decide +kernel) (by decide +kernel) (by decide +kernel) (by decide +kernel) (by decide) rfl ⟨by decide, by decide⟩ dX2_init_26 (fun s4 => ?_)
  refine z_putR (fs := [some (some 59), some (some 68), some none, some none, some none, some none, some none]) (Z2 := (ZC 70 [58, 0])) hin fpr_RX2_22 (by decide +kernel) (by decide) (by decide +kernel) (by decide +kernel) dX2_init_28 ?_
  refine z_aload_n dX2_init_31 rfl rfl ?_
  refine z_bipush (v := 16) dX2_init_32 (by decide +kernel) (inr_d rfl) ?_
  refine z_newa (kd := 0) (N := 16) (Z2 := (ZC 71 [70, 58, 0])) (cs2 := (12, 459)) acl_0 rfl rfl (fun _ _ => rfl) rfl rfl (by decide) (by decide +kernel) (by decide +kernel) (by decide +kernel) (by decide +kernel) (by decide) rfl ⟨by decide, by decide⟩ dX2_init_34 (fun s5 => ?_)
  refine z_putR (fs := [some (some 59), some (some 68), some (some 69), some none, some none, some none, some none]) (Z2 := (ZC 71 [58, 0])) hin fpr_RX2_25 (by decide +kernel) (by decide) (by decide +kernel) (by decide +kernel) dX2_init_36 ?_
  refine z_aload_n dX2_init_39 rfl rfl ?_
  refine z_bipush (v := 16) dX2_init_40 (by decide +kernel) (inr_d rfl) ?_
  refine z_newa (kd := 0) (N := 16) (Z2 := (ZC 72 [71, 58, 0])) (cs2 := (13, 475)) acl_0 rfl rfl (fun _ _ => rfl) rfl rfl (by decide) (by decide +kernel) (by decide +kernel) (by decide +kernel) (by decide +kernel) (by decide) rfl ⟨by decide, by decide⟩ dX2_init_42 (fun s6 => ?_)
  refine z_putR (fs := [some (some 59), some (some 68), some (some 69), some (some 70), some none, some none, some none]) (Z2 := (ZC 72 [58, 0])) hin fpr_RX2_28 (by decide +kernel) (by decide) (by decide +kernel) (by decide +kernel) dX2_init_44 ?_
  refine z_aload_n dX2_init_47 rfl rfl ?_
  refine z_new (ci := 5) (fs := [some none, some none, some none]) (Z2 := (ZC 73 [72, 58, 0])) (cs2 := (14, 478)) nw_RX2_31 rfl lays_5 tyX5_ok (by decide +kernel) (by decide +kernel) (by decide +kernel) (by decide +kernel) (by decide) rfl ⟨by decide, by decide⟩ dX2_init_48 (fun s7 => ?_)
  refine z_dup dX2_init_51 ?_
  refine z_callN (Z1 := (ZC 76 [72, 58, 0])) (cs2 := (17, 502)) (mX5_init_72 (zl K) (zD K) (zcA K) s7) ci_RX2_33 ⟨rfl, rfl, by decide, by decide⟩ rfl ⟨by decide, by decide⟩ ⟨by decide +kernel, by decide +kernel⟩ (by decide +kernel) (Nat.le_of_ble_eq_true rfl) dX2_init_52 (fun _ s8 => ?_)
  refine z_putR (fs := [some (some 59), some (some 68), some (some 69), some (some 70), some (some 71), some none, some none]) (Z2 := (ZC 76 [58, 0])) hin fpr_RX2_34 (by decide +kernel) (by decide) (by decide +kernel) (by decide +kernel) dX2_init_55 ?_
  refine z_aload_n dX2_init_58 rfl rfl ?_
  refine z_bipush (v := 15) dX2_init_59 (by decide +kernel) (inr_d rfl) ?_
  refine z_newa (kd := 0) (N := 15) (Z2 := (ZC 77 [76, 58, 0])) (cs2 := (18, 517)) acl_0 rfl rfl (fun _ _ => rfl) rfl rfl (by decide) (by decide +kernel) (by decide +kernel) (by decide +kernel) (by decide +kernel) (by decide) rfl ⟨by decide, by decide⟩ dX2_init_61 (fun s9 => ?_)
  refine z_putR (fs := [some (some 59), some (some 68), some (some 69), some (some 70), some (some 71), some (some 72), some none]) (Z2 := (ZC 77 [58, 0])) hin fpr_RX2_38 (by decide +kernel) (by decide) (by decide +kernel) (by decide +kernel) dX2_init_63 ?_
  refine z_aload_n dX2_init_66 rfl rfl ?_
  refine z_getR (fs := [some (some 59), some (some 68), some (some 69), some (some 70), some (some 71), some (some 72), some (some 76)]) fl_RX2_18 (by decide +kernel) rfl dX2_init_67 ?_
  refine z_bipush (v := 30) dX2_init_70 (by decide +kernel) (inr_d rfl) ?_
  refine z_callS (Z1 := (ZC 77 [58, 0])) (cs2 := (18, 517)) (mzJ7_fill_53178 (zl K) (zD K) (zcA K) _ (by decide +kernel) (by decide +kernel) 68 48 (by decide +kernel) (by decide) 30 s9) cw_RX2_41 ⟨rfl, rfl, by decide, by decide⟩ rfl ⟨by decide, by decide⟩ ⟨Nat.le_refl _, by decide +kernel⟩ (by decide +kernel) (Nat.le_of_ble_eq_true rfl) dX2_init_72 (fun _ s10 => ?_)
  refine z_aload_n dX2_init_75 rfl rfl ?_
  refine z_getR (fs := [some (some 59), some (some 68), some (some 69), some (some 70), some (some 71), some (some 72), some (some 76)]) fl_RX2_22 (by decide +kernel) rfl dX2_init_76 ?_
  refine z_iconst dX2_init_79 (inr_d rfl) ?_
  refine z_callS (Z1 := (ZC 77 [58, 0])) (cs2 := (18, 517)) (mzJ7_fill_53178 (zl K) (zD K) (zcA K) _ (by decide +kernel) (by decide +kernel) 69 48 (by decide +kernel) (by decide) (-1) s10) cw_RX2_41 ⟨rfl, rfl, by decide, by decide⟩ rfl ⟨by decide, by decide⟩ ⟨Nat.le_refl _, by decide +kernel⟩ (by decide +kernel) (Nat.le_of_ble_eq_true rfl) dX2_init_80 (fun _ s11 => ?_)
  refine z_aload_n dX2_init_83 rfl rfl ?_
  refine z_getR (fs := [some (some 59), some (some 68), some (some 69), some (some 70), some (some 71), some (some 72), some (some 76)]) fl_RX2_25 (by decide +kernel) rfl dX2_init_84 ?_
  refine z_iconst dX2_init_87 (inr_d rfl) ?_
  refine z_callS (Z1 := (ZC 77 [58, 0])) (cs2 := (18, 517)) (mzJ7_fill_53178 (zl K) (zD K) (zcA K) _ (by decide +kernel) (by decide +kernel) 70 16 (by decide +kernel) (by decide) (-1) s11) cw_RX2_41 ⟨rfl, rfl, by decide, by decide⟩ rfl ⟨by decide, by decide⟩ ⟨Nat.le_refl _, by decide +kernel⟩ (by decide +kernel) (Nat.le_of_ble_eq_true rfl) dX2_init_88 (fun _ s12 => ?_)
  exact z_vret hq dX2_init_91
abbrev rmX0_init_77 : Room := { frames := 1, cells := 1, slots := 16, locals := 20 }
theorem dX0_init_0 : decode cX0_init 0 = .ok (.aload_n 0, 1) := by decide +kernel
theorem dX0_init_1 : decode cX0_init 1 = .ok (.invokespecial 3, 3) := by decide +kernel
theorem dX0_init_4 : decode cX0_init 4 = .ok (.aload_n 0, 1) := by decide +kernel
theorem dX0_init_5 : decode cX0_init 5 = .ok (.bipush 16, 2) := by decide +kernel
theorem dX0_init_7 : decode cX0_init 7 = .ok (.newarray .int, 2) := by decide +kernel
theorem dX0_init_9 : decode cX0_init 9 = .ok (.putfield 9, 3) := by decide +kernel
theorem dX0_init_12 : decode cX0_init 12 = .ok (.return_, 1) := by decide +kernel
def fX0_init_77 (s0 : Mem) : Option Res :=
 lt (zm s0 78) (fun s1 =>
 some (0, s1))
set_option maxRecDepth 100000 in
set_option maxHeartbeats 4000000 in
theorem mX0_init_77 (l : Launch) (D : va_G) (cA : Nat → ClassId) (s0 : Mem) : MKZ l D cA yX0_init cX0_init 1 rmX0_init_77 (1, 16) (ZC 78 [77, 0]) (ZC 79 [77, 0]) [.inr (.inr 77)] s0 (fX0_init_77 s0) := by
  refine MKZ_of (own := RX0) (ls := [some (.inr (.inr 77))]) 0 (by decide +kernel) rfl rfl (fun _ => Nat.le_of_ble_eq_true rfl) (by decide +kernel) (by decide +kernel) (fun K hin hq => ?_)
  have hin := hin rfl
  unfold fX0_init_77
  refine z_aload_n dX0_init_0 rfl rfl ?_
  refine z_objInit oi_RX0_3 ⟨by decide, by decide⟩ (Nat.le_of_ble_eq_true rfl) dX0_init_1 ?_
  refine z_aload_n dX0_init_4 rfl rfl ?_
  refine z_bipush (v := 16) dX0_init_5 (by decide +kernel) (inr_d rfl) ?_
  refine z_newa (kd := 0) (N := 16) (Z2 := (ZC 79 [78, 77, 0])) (cs2 := (1, 16)) acl_0 rfl rfl (fun _ _ => rfl) rfl rfl (by decide) (by decide +kernel) (by decide +kernel) (by decide +kernel) (by decide +kernel) (by decide) rfl ⟨by decide, by decide⟩ dX0_init_7 (fun s1 => ?_)
  refine z_putR (fs := [some none, none, none, none]) (Z2 := (ZC 79 [77, 0])) hin fpr_RX0_9 (by decide +kernel) (by decide) (by decide +kernel) (by decide +kernel) dX0_init_9 ?_
  exact z_vret hq dX0_init_12
abbrev rmX1_init_79 : Room := { frames := 1, cells := 3, slots := 866, locals := 20 }
theorem dX1_init_0 : decode cX1_init 0 = .ok (.aload_n 0, 1) := by decide +kernel
theorem dX1_init_1 : decode cX1_init 1 = .ok (.invokespecial 3, 3) := by decide +kernel
theorem dX1_init_4 : decode cX1_init 4 = .ok (.aload_n 0, 1) := by decide +kernel
theorem dX1_init_5 : decode cX1_init 5 = .ok (.sipush 800, 3) := by decide +kernel
theorem dX1_init_8 : decode cX1_init 8 = .ok (.newarray .int, 2) := by decide +kernel
theorem dX1_init_10 : decode cX1_init 10 = .ok (.putfield 9, 3) := by decide +kernel
theorem dX1_init_13 : decode cX1_init 13 = .ok (.aload_n 0, 1) := by decide +kernel
theorem dX1_init_14 : decode cX1_init 14 = .ok (.bipush 50, 2) := by decide +kernel
theorem dX1_init_16 : decode cX1_init 16 = .ok (.newarray .int, 2) := by decide +kernel
theorem dX1_init_18 : decode cX1_init 18 = .ok (.putfield 15, 3) := by decide +kernel
theorem dX1_init_21 : decode cX1_init 21 = .ok (.aload_n 0, 1) := by decide +kernel
theorem dX1_init_22 : decode cX1_init 22 = .ok (.bipush 16, 2) := by decide +kernel
theorem dX1_init_24 : decode cX1_init 24 = .ok (.newarray .int, 2) := by decide +kernel
theorem dX1_init_26 : decode cX1_init 26 = .ok (.putfield 18, 3) := by decide +kernel
theorem dX1_init_29 : decode cX1_init 29 = .ok (.return_, 1) := by decide +kernel
def fX1_init_79 (s0 : Mem) : Option Res :=
 lt (zm s0 80) (fun s1 =>
 lt (zm s1 81) (fun s2 =>
 lt (zm s2 82) (fun s3 =>
 some (0, s3))))
set_option maxRecDepth 100000 in
set_option maxHeartbeats 4000000 in
theorem mX1_init_79 (l : Launch) (D : va_G) (cA : Nat → ClassId) (s0 : Mem) : MKZ l D cA yX1_init cX1_init 1 rmX1_init_79 (3, 866) (ZC 80 [79, 0]) (ZC 83 [79, 0]) [.inr (.inr 79)] s0 (fX1_init_79 s0) := by
  refine MKZ_of (own := RX1) (ls := [some (.inr (.inr 79))]) 0 (by decide +kernel) rfl rfl (fun _ => Nat.le_of_ble_eq_true rfl) (by decide +kernel) (by decide +kernel) (fun K hin hq => ?_)
  have hin := hin rfl
  unfold fX1_init_79
  refine z_aload_n dX1_init_0 rfl rfl ?_
  refine z_objInit oi_RX1_3 ⟨by decide, by decide⟩ (Nat.le_of_ble_eq_true rfl) dX1_init_1 ?_
  refine z_aload_n dX1_init_4 rfl rfl ?_
  refine z_sipush (v := 800) dX1_init_5 (by decide +kernel) (inr_d rfl) ?_
  refine z_newa (kd := 0) (N := 800) (Z2 := (ZC 81 [80, 79, 0])) (cs2 := (1, 800)) acl_0 rfl rfl (fun _ _ => rfl) rfl rfl (by decide) (by decide +kernel) (by decide +kernel) (by decide +kernel) (by decide +kernel) (by decide) rfl ⟨by decide, by decide⟩ dX1_init_8 (fun s1 => ?_)
  refine z_putR (fs := [some none, some none, some none, none]) (Z2 := (ZC 81 [79, 0])) hin fpr_RX1_9 (by decide +kernel) (by decide) (by decide +kernel) (by decide +kernel) dX1_init_10 ?_
  refine z_aload_n dX1_init_13 rfl rfl ?_
  refine z_bipush (v := 50) dX1_init_14 (by decide +kernel) (inr_d rfl) ?_
  refine z_newa (kd := 0) (N := 50) (Z2 := (ZC 82 [81, 79, 0])) (cs2 := (2, 850)) acl_0 rfl rfl (fun _ _ => rfl) rfl rfl (by decide) (by decide +kernel) (by decide +kernel) (by decide +kernel) (by decide +kernel) (by decide) rfl ⟨by decide, by decide⟩ dX1_init_16 (fun s2 => ?_)
  refine z_putR (fs := [some (some 80), some none, some none, none]) (Z2 := (ZC 82 [79, 0])) hin fpr_RX1_15 (by decide +kernel) (by decide) (by decide +kernel) (by decide +kernel) dX1_init_18 ?_
  refine z_aload_n dX1_init_21 rfl rfl ?_
  refine z_bipush (v := 16) dX1_init_22 (by decide +kernel) (inr_d rfl) ?_
  refine z_newa (kd := 0) (N := 16) (Z2 := (ZC 83 [82, 79, 0])) (cs2 := (3, 866)) acl_0 rfl rfl (fun _ _ => rfl) rfl rfl (by decide) (by decide +kernel) (by decide +kernel) (by decide +kernel) (by decide +kernel) (by decide) rfl ⟨by decide, by decide⟩ dX1_init_24 (fun s3 => ?_)
  refine z_putR (fs := [some (some 80), some (some 81), some none, none]) (Z2 := (ZC 83 [79, 0])) hin fpr_RX1_18 (by decide +kernel) (by decide) (by decide +kernel) (by decide +kernel) dX1_init_26 ?_
  exact z_vret hq dX1_init_29
abbrev rmX7_init_83 : Room := { frames := 1, cells := 5, slots := 100, locals := 20 }
theorem dX7_init_0 : decode cX7_init 0 = .ok (.aload_n 0, 1) := by decide +kernel
theorem dX7_init_1 : decode cX7_init 1 = .ok (.invokespecial 3, 3) := by decide +kernel
theorem dX7_init_4 : decode cX7_init 4 = .ok (.aload_n 0, 1) := by decide +kernel
theorem dX7_init_5 : decode cX7_init 5 = .ok (.bipush 20, 2) := by decide +kernel
theorem dX7_init_7 : decode cX7_init 7 = .ok (.newarray .int, 2) := by decide +kernel
theorem dX7_init_9 : decode cX7_init 9 = .ok (.putfield 11, 3) := by decide +kernel
theorem dX7_init_12 : decode cX7_init 12 = .ok (.aload_n 0, 1) := by decide +kernel
theorem dX7_init_13 : decode cX7_init 13 = .ok (.bipush 20, 2) := by decide +kernel
theorem dX7_init_15 : decode cX7_init 15 = .ok (.newarray .int, 2) := by decide +kernel
theorem dX7_init_17 : decode cX7_init 17 = .ok (.putfield 15, 3) := by decide +kernel
theorem dX7_init_20 : decode cX7_init 20 = .ok (.aload_n 0, 1) := by decide +kernel
theorem dX7_init_21 : decode cX7_init 21 = .ok (.bipush 20, 2) := by decide +kernel
theorem dX7_init_23 : decode cX7_init 23 = .ok (.newarray .int, 2) := by decide +kernel
theorem dX7_init_25 : decode cX7_init 25 = .ok (.putfield 18, 3) := by decide +kernel
theorem dX7_init_28 : decode cX7_init 28 = .ok (.aload_n 0, 1) := by decide +kernel
theorem dX7_init_29 : decode cX7_init 29 = .ok (.bipush 20, 2) := by decide +kernel
theorem dX7_init_31 : decode cX7_init 31 = .ok (.newarray .int, 2) := by decide +kernel
theorem dX7_init_33 : decode cX7_init 33 = .ok (.putfield 21, 3) := by decide +kernel
theorem dX7_init_36 : decode cX7_init 36 = .ok (.aload_n 0, 1) := by decide +kernel
theorem dX7_init_37 : decode cX7_init 37 = .ok (.bipush 20, 2) := by decide +kernel
theorem dX7_init_39 : decode cX7_init 39 = .ok (.newarray .int, 2) := by decide +kernel
theorem dX7_init_41 : decode cX7_init 41 = .ok (.putfield 24, 3) := by decide +kernel
theorem dX7_init_44 : decode cX7_init 44 = .ok (.return_, 1) := by decide +kernel
def fX7_init_83 (s0 : Mem) : Option Res :=
 lt (zm s0 84) (fun s1 =>
 lt (zm s1 85) (fun s2 =>
 lt (zm s2 86) (fun s3 =>
 lt (zm s3 87) (fun s4 =>
 lt (zm s4 88) (fun s5 =>
 some (0, s5))))))
set_option maxRecDepth 100000 in
set_option maxHeartbeats 4000000 in
theorem mX7_init_83 (l : Launch) (D : va_G) (cA : Nat → ClassId) (s0 : Mem) : MKZ l D cA yX7_init cX7_init 1 rmX7_init_83 (5, 100) (ZC 84 [83, 0]) (ZC 89 [83, 0]) [.inr (.inr 83)] s0 (fX7_init_83 s0) := by
  refine MKZ_of (own := RX7) (ls := [some (.inr (.inr 83))]) 0 (by decide +kernel) rfl rfl (fun _ => Nat.le_of_ble_eq_true rfl) (by decide +kernel) (by decide +kernel) (fun K hin hq => ?_)
  have hin := hin rfl
  unfold fX7_init_83
  refine z_aload_n dX7_init_0 rfl rfl ?_
  refine z_objInit oi_RX7_3 ⟨by decide, by decide⟩ (Nat.le_of_ble_eq_true rfl) dX7_init_1 ?_
  refine z_aload_n dX7_init_4 rfl rfl ?_
  refine z_bipush (v := 20) dX7_init_5 (by decide +kernel) (inr_d rfl) ?_
  refine z_newa (kd := 0) (N := 20) (Z2 := (ZC 85 [84, 83, 0])) (cs2 := (1, 20)) acl_0 rfl rfl (fun _ _ => rfl) rfl rfl (by decide) (by decide +kernel) (by decide +kernel) (by decide +kernel) (by decide +kernel) (by decide) rfl ⟨by decide, by decide⟩ dX7_init_7 (fun s1 => ?_)
  refine z_putR (fs := [some none, some none, some none, none, some none, some none, none]) (Z2 := (ZC 85 [83, 0])) hin fpr_RX7_11 (by decide +kernel) (by decide) (by decide +kernel) (by decide +kernel) dX7_init_9 ?_
  refine z_aload_n dX7_init_12 rfl rfl ?_
  refine z_bipush (v := 20) dX7_init_13 (by decide +kernel) (inr_d rfl) ?_
  refine z_newa (kd := 0) (N := 20) (Z2 := (ZC 86 [85, 83, 0])) (cs2 := (2, 40)) acl_0 rfl rfl (fun _ _ => rfl) rfl rfl (by decide) (by decide +kernel) (by decide +kernel) (by decide +kernel) (by decide +kernel) (by decide) rfl ⟨by decide, by decide⟩ dX7_init_15 (fun s2 => ?_)
  refine z_putR (fs := [some (some 84), some none, some none, none, some none, some none, none]) (Z2 := (ZC 86 [83, 0])) hin fpr_RX7_15 (by decide +kernel) (by decide) (by decide +kernel) (by decide +kernel) dX7_init_17 ?_
  refine z_aload_n dX7_init_20 rfl rfl ?_
  refine z_bipush (v := 20) dX7_init_21 (by decide +kernel) (inr_d rfl) ?_
  refine z_newa (kd := 0) (N := 20) (Z2 := (ZC 87 [86, 83, 0])) (cs2 := (3, 60)) acl_0 rfl rfl (fun _ _ => rfl) rfl rfl (by decide) (by decide +kernel) (by decide +kernel) (by decide +kernel) (by decide +kernel) (by decide) rfl ⟨by decide, by decide⟩ dX7_init_23 (fun s3 => ?_)
  refine z_putR (fs := [some (some 84), some (some 85), some none, none, some none, some none, none]) (Z2 := (ZC 87 [83, 0])) hin fpr_RX7_18 (by decide +kernel) (by decide) (by decide +kernel) (by decide +kernel) dX7_init_25 ?_
  refine z_aload_n dX7_init_28 rfl rfl ?_
  refine z_bipush (v := 20) dX7_init_29 (by decide +kernel) (inr_d rfl) ?_
  refine z_newa (kd := 0) (N := 20) (Z2 := (ZC 88 [87, 83, 0])) (cs2 := (4, 80)) acl_0 rfl rfl (fun _ _ => rfl) rfl rfl (by decide) (by decide +kernel) (by decide +kernel) (by decide +kernel) (by decide +kernel) (by decide) rfl ⟨by decide, by decide⟩ dX7_init_31 (fun s4 => ?_)
  refine z_putR (fs := [some (some 84), some (some 85), some (some 86), none, some none, some none, none]) (Z2 := (ZC 88 [83, 0])) hin fpr_RX7_21 (by decide +kernel) (by decide) (by decide +kernel) (by decide +kernel) dX7_init_33 ?_
  refine z_aload_n dX7_init_36 rfl rfl ?_
  refine z_bipush (v := 20) dX7_init_37 (by decide +kernel) (inr_d rfl) ?_
  refine z_newa (kd := 0) (N := 20) (Z2 := (ZC 89 [88, 83, 0])) (cs2 := (5, 100)) acl_0 rfl rfl (fun _ _ => rfl) rfl rfl (by decide) (by decide +kernel) (by decide +kernel) (by decide +kernel) (by decide +kernel) (by decide) rfl ⟨by decide, by decide⟩ dX7_init_39 (fun s5 => ?_)
  refine z_putR (fs := [some (some 84), some (some 85), some (some 86), none, some (some 87), some none, none]) (Z2 := (ZC 89 [83, 0])) hin fpr_RX7_24 (by decide +kernel) (by decide) (by decide +kernel) (by decide +kernel) dX7_init_41 ?_
  exact z_vret hq dX7_init_44
abbrev rmX3_init_89 : Room := { frames := 1, cells := 4, slots := 32, locals := 20 }
theorem dX3_init_0 : decode cX3_init 0 = .ok (.aload_n 0, 1) := by decide +kernel
theorem dX3_init_1 : decode cX3_init 1 = .ok (.invokespecial 1, 3) := by decide +kernel
theorem dX3_init_4 : decode cX3_init 4 = .ok (.aload_n 0, 1) := by decide +kernel
theorem dX3_init_5 : decode cX3_init 5 = .ok (.bipush 8, 2) := by decide +kernel
theorem dX3_init_7 : decode cX3_init 7 = .ok (.newarray .int, 2) := by decide +kernel
theorem dX3_init_9 : decode cX3_init 9 = .ok (.putfield 9, 3) := by decide +kernel
theorem dX3_init_12 : decode cX3_init 12 = .ok (.aload_n 0, 1) := by decide +kernel
theorem dX3_init_13 : decode cX3_init 13 = .ok (.bipush 8, 2) := by decide +kernel
theorem dX3_init_15 : decode cX3_init 15 = .ok (.newarray .int, 2) := by decide +kernel
theorem dX3_init_17 : decode cX3_init 17 = .ok (.putfield 13, 3) := by decide +kernel
theorem dX3_init_20 : decode cX3_init 20 = .ok (.aload_n 0, 1) := by decide +kernel
theorem dX3_init_21 : decode cX3_init 21 = .ok (.bipush 8, 2) := by decide +kernel
theorem dX3_init_23 : decode cX3_init 23 = .ok (.newarray .int, 2) := by decide +kernel
theorem dX3_init_25 : decode cX3_init 25 = .ok (.putfield 16, 3) := by decide +kernel
theorem dX3_init_28 : decode cX3_init 28 = .ok (.aload_n 0, 1) := by decide +kernel
theorem dX3_init_29 : decode cX3_init 29 = .ok (.bipush 8, 2) := by decide +kernel
theorem dX3_init_31 : decode cX3_init 31 = .ok (.newarray .int, 2) := by decide +kernel
theorem dX3_init_33 : decode cX3_init 33 = .ok (.putfield 19, 3) := by decide +kernel
theorem dX3_init_36 : decode cX3_init 36 = .ok (.return_, 1) := by decide +kernel
def fX3_init_89 (s0 : Mem) : Option Res :=
 lt (zm s0 90) (fun s1 =>
 lt (zm s1 91) (fun s2 =>
 lt (zm s2 92) (fun s3 =>
 lt (zm s3 93) (fun s4 =>
 some (0, s4)))))
set_option maxRecDepth 100000 in
set_option maxHeartbeats 4000000 in
theorem mX3_init_89 (l : Launch) (D : va_G) (cA : Nat → ClassId) (s0 : Mem) : MKZ l D cA yX3_init cX3_init 1 rmX3_init_89 (4, 32) (ZC 90 [89, 0]) (ZC 94 [89, 0]) [.inr (.inr 89)] s0 (fX3_init_89 s0) := by
  refine MKZ_of (own := RX3) (ls := [some (.inr (.inr 89))]) 0 (by decide +kernel) rfl rfl (fun _ => Nat.le_of_ble_eq_true rfl) (by decide +kernel) (by decide +kernel) (fun K hin hq => ?_)
  have hin := hin rfl
  unfold fX3_init_89
  refine z_aload_n dX3_init_0 rfl rfl ?_
  refine z_objInit oi_RX3_1 ⟨by decide, by decide⟩ (Nat.le_of_ble_eq_true rfl) dX3_init_1 ?_
  refine z_aload_n dX3_init_4 rfl rfl ?_
  refine z_bipush (v := 8) dX3_init_5 (by decide +kernel) (inr_d rfl) ?_
  refine z_newa (kd := 0) (N := 8) (Z2 := (ZC 91 [90, 89, 0])) (cs2 := (1, 8)) acl_0 rfl rfl (fun _ _ => rfl) rfl rfl (by decide) (by decide +kernel) (by decide +kernel) (by decide +kernel) (by decide +kernel) (by decide) rfl ⟨by decide, by decide⟩ dX3_init_7 (fun s1 => ?_)
  refine z_putR (fs := [some none, some none, some none, some none, none]) (Z2 := (ZC 91 [89, 0])) hin fpr_RX3_9 (by decide +kernel) (by decide) (by decide +kernel) (by decide +kernel) dX3_init_9 ?_
  refine z_aload_n dX3_init_12 rfl rfl ?_
  refine z_bipush (v := 8) dX3_init_13 (by decide +kernel) (inr_d rfl) ?_
  refine z_newa (kd := 0) (N := 8) (Z2 := (ZC 92 [91, 89, 0])) (cs2 := (2, 16)) acl_0 rfl rfl (fun _ _ => rfl) rfl rfl (by decide) (by decide +kernel) (by decide +kernel) (by decide +kernel) (by decide +kernel) (by decide) rfl ⟨by decide, by decide⟩ dX3_init_15 (fun s2 => ?_)
  refine z_putR (fs := [some (some 90), some none, some none, some none, none]) (Z2 := (ZC 92 [89, 0])) hin fpr_RX3_13 (by decide +kernel) (by decide) (by decide +kernel) (by decide +kernel) dX3_init_17 ?_
  refine z_aload_n dX3_init_20 rfl rfl ?_
  refine z_bipush (v := 8) dX3_init_21 (by decide +kernel) (inr_d rfl) ?_
  refine z_newa (kd := 0) (N := 8) (Z2 := (ZC 93 [92, 89, 0])) (cs2 := (3, 24)) acl_0 rfl rfl (fun _ _ => rfl) rfl rfl (by decide) (by decide +kernel) (by decide +kernel) (by decide +kernel) (by decide +kernel) (by decide) rfl ⟨by decide, by decide⟩ dX3_init_23 (fun s3 => ?_)
  refine z_putR (fs := [some (some 90), some (some 91), some none, some none, none]) (Z2 := (ZC 93 [89, 0])) hin fpr_RX3_16 (by decide +kernel) (by decide) (by decide +kernel) (by decide +kernel) dX3_init_25 ?_
  refine z_aload_n dX3_init_28 rfl rfl ?_
  refine z_bipush (v := 8) dX3_init_29 (by decide +kernel) (inr_d rfl) ?_
  refine z_newa (kd := 0) (N := 8) (Z2 := (ZC 94 [93, 89, 0])) (cs2 := (4, 32)) acl_0 rfl rfl (fun _ _ => rfl) rfl rfl (by decide) (by decide +kernel) (by decide +kernel) (by decide +kernel) (by decide +kernel) (by decide) rfl ⟨by decide, by decide⟩ dX3_init_31 (fun s4 => ?_)
  refine z_putR (fs := [some (some 90), some (some 91), some (some 92), some none, none]) (Z2 := (ZC 94 [89, 0])) hin fpr_RX3_19 (by decide +kernel) (by decide) (by decide +kernel) (by decide +kernel) dX3_init_33 ?_
  exact z_vret hq dX3_init_36
abbrev rmX4_init_94 : Room := { frames := 1, cells := 5, slots := 786, locals := 20 }
theorem dX4_init_0 : decode cX4_init 0 = .ok (.aload_n 0, 1) := by decide +kernel
theorem dX4_init_1 : decode cX4_init 1 = .ok (.invokespecial 5, 3) := by decide +kernel
theorem dX4_init_4 : decode cX4_init 4 = .ok (.aload_n 0, 1) := by decide +kernel
theorem dX4_init_5 : decode cX4_init 5 = .ok (.sipush 256, 3) := by decide +kernel
theorem dX4_init_8 : decode cX4_init 8 = .ok (.newarray .int, 2) := by decide +kernel
theorem dX4_init_10 : decode cX4_init 10 = .ok (.putfield 13, 3) := by decide +kernel
theorem dX4_init_13 : decode cX4_init 13 = .ok (.aload_n 0, 1) := by decide +kernel
theorem dX4_init_14 : decode cX4_init 14 = .ok (.sipush 256, 3) := by decide +kernel
theorem dX4_init_17 : decode cX4_init 17 = .ok (.newarray .int, 2) := by decide +kernel
theorem dX4_init_19 : decode cX4_init 19 = .ok (.putfield 17, 3) := by decide +kernel
theorem dX4_init_22 : decode cX4_init 22 = .ok (.aload_n 0, 1) := by decide +kernel
theorem dX4_init_23 : decode cX4_init 23 = .ok (.sipush 256, 3) := by decide +kernel
theorem dX4_init_26 : decode cX4_init 26 = .ok (.newarray .int, 2) := by decide +kernel
theorem dX4_init_28 : decode cX4_init 28 = .ok (.putfield 20, 3) := by decide +kernel
theorem dX4_init_31 : decode cX4_init 31 = .ok (.aload_n 0, 1) := by decide +kernel
theorem dX4_init_32 : decode cX4_init 32 = .ok (.bipush 16, 2) := by decide +kernel
theorem dX4_init_34 : decode cX4_init 34 = .ok (.newarray .int, 2) := by decide +kernel
theorem dX4_init_36 : decode cX4_init 36 = .ok (.putfield 23, 3) := by decide +kernel
theorem dX4_init_39 : decode cX4_init 39 = .ok (.aload_n 0, 1) := by decide +kernel
theorem dX4_init_40 : decode cX4_init 40 = .ok (.iconst 2, 1) := by decide +kernel
theorem dX4_init_41 : decode cX4_init 41 = .ok (.newarray .int, 2) := by decide +kernel
theorem dX4_init_43 : decode cX4_init 43 = .ok (.putfield 26, 3) := by decide +kernel
theorem dX4_init_46 : decode cX4_init 46 = .ok (.return_, 1) := by decide +kernel
def fX4_init_94 (s0 : Mem) : Option Res :=
 lt (zm s0 95) (fun s1 =>
 lt (zm s1 96) (fun s2 =>
 lt (zm s2 97) (fun s3 =>
 lt (zm s3 98) (fun s4 =>
 lt (zm s4 99) (fun s5 =>
 some (0, s5))))))
set_option maxRecDepth 100000 in
set_option maxHeartbeats 4000000 in
theorem mX4_init_94 (l : Launch) (D : va_G) (cA : Nat → ClassId) (s0 : Mem) : MKZ l D cA yX4_init cX4_init 1 rmX4_init_94 (5, 786) (ZC 95 [94, 0]) (ZC 100 [94, 0]) [.inr (.inr 94)] s0 (fX4_init_94 s0) := by
  refine MKZ_of (own := RX4) (ls := [some (.inr (.inr 94))]) 0 (by decide +kernel) rfl rfl (fun _ => Nat.le_of_ble_eq_true rfl) (by decide +kernel) (by decide +kernel) (fun K hin hq => ?_)
  have hin := hin rfl
  unfold fX4_init_94
  refine z_aload_n dX4_init_0 rfl rfl ?_
  refine z_objInit oi_RX4_5 ⟨by decide, by decide⟩ (Nat.le_of_ble_eq_true rfl) dX4_init_1 ?_
  refine z_aload_n dX4_init_4 rfl rfl ?_
  refine z_sipush (v := 256) dX4_init_5 (by decide +kernel) (inr_d rfl) ?_
  refine z_newa (kd := 0) (N := 256) (Z2 := (ZC 96 [95, 94, 0])) (cs2 := (1, 256)) acl_0 rfl rfl (fun _ _ => rfl) rfl rfl (by decide) (by decide +kernel) (by decide +kernel) (by decide +kernel) (by decide +kernel) (by decide) rfl ⟨by decide, by decide⟩ dX4_init_8 (fun s1 => ?_)
  refine z_putR (fs := [some none, some none, some none, some none, some none, none, none]) (Z2 := (ZC 96 [94, 0])) hin fpr_RX4_13 (by decide +kernel) (by decide) (by decide +kernel) (by decide +kernel) dX4_init_10 ?_
  refine z_aload_n dX4_init_13 rfl rfl ?_
  refine z_sipush (v := 256) dX4_init_14 (by decide +kernel) (inr_d rfl) ?_
  refine z_newa (kd := 0) (N := 256) (Z2 := (ZC 97 [96, 94, 0])) (cs2 := (2, 512)) acl_0 rfl rfl (fun _ _ => rfl) rfl rfl (by decide) (by decide +kernel) (by decide +kernel) (by decide +kernel) (by decide +kernel) (by decide) rfl ⟨by decide, by decide⟩ dX4_init_17 (fun s2 => ?_)
  refine z_putR (fs := [some (some 95), some none, some none, some none, some none, none, none]) (Z2 := (ZC 97 [94, 0])) hin fpr_RX4_17 (by decide +kernel) (by decide) (by decide +kernel) (by decide +kernel) dX4_init_19 ?_
  refine z_aload_n dX4_init_22 rfl rfl ?_
  refine z_sipush (v := 256) dX4_init_23 (by decide +kernel) (inr_d rfl) ?_
  refine z_newa (kd := 0) (N := 256) (Z2 := (ZC 98 [97, 94, 0])) (cs2 := (3, 768)) acl_0 rfl rfl (fun _ _ => rfl) rfl rfl (by decide) (by decide +kernel) (by decide +kernel) (by decide +kernel) (by decide +kernel) (by decide) rfl ⟨by decide, by decide⟩ dX4_init_26 (fun s3 => ?_)
  refine z_putR (fs := [some (some 95), some (some 96), some none, some none, some none, none, none]) (Z2 := (ZC 98 [94, 0])) hin fpr_RX4_20 (by decide +kernel) (by decide) (by decide +kernel) (by decide +kernel) dX4_init_28 ?_
  refine z_aload_n dX4_init_31 rfl rfl ?_
  refine z_bipush (v := 16) dX4_init_32 (by decide +kernel) (inr_d rfl) ?_
  refine z_newa (kd := 0) (N := 16) (Z2 := (ZC 99 [98, 94, 0])) (cs2 := (4, 784)) acl_0 rfl rfl (fun _ _ => rfl) rfl rfl (by decide) (by decide +kernel) (by decide +kernel) (by decide +kernel) (by decide +kernel) (by decide) rfl ⟨by decide, by decide⟩ dX4_init_34 (fun s4 => ?_)
  refine z_putR (fs := [some (some 95), some (some 96), some (some 97), some none, some none, none, none]) (Z2 := (ZC 99 [94, 0])) hin fpr_RX4_23 (by decide +kernel) (by decide) (by decide +kernel) (by decide +kernel) dX4_init_36 ?_
  refine z_aload_n dX4_init_39 rfl rfl ?_
  refine z_iconst dX4_init_40 (inr_d rfl) ?_
  refine z_newa (kd := 0) (N := 2) (Z2 := (ZC 100 [99, 94, 0])) (cs2 := (5, 786)) acl_0 rfl rfl (fun _ _ => rfl) rfl rfl (by decide) (by decide +kernel) (by decide +kernel) (by decide +kernel) (by decide +kernel) (by decide) rfl ⟨by decide, by decide⟩ dX4_init_41 (fun s5 => ?_)
  refine z_putR (fs := [some (some 95), some (some 96), some (some 97), some (some 98), some none, none, none]) (Z2 := (ZC 100 [94, 0])) hin fpr_RX4_26 (by decide +kernel) (by decide) (by decide +kernel) (by decide +kernel) dX4_init_43 ?_
  exact z_vret hq dX4_init_46
abbrev rmX11_init_100 : Room := { frames := 1, cells := 35, slots := 3517, locals := 20 }
theorem dX11_init_0 : decode cX11_init 0 = .ok (.aload_n 0, 1) := by decide +kernel
theorem dX11_init_1 : decode cX11_init 1 = .ok (.invokespecial 1, 3) := by decide +kernel
theorem dX11_init_4 : decode cX11_init 4 = .ok (.aload_n 0, 1) := by decide +kernel
theorem dX11_init_5 : decode cX11_init 5 = .ok (.bipush 81, 2) := by decide +kernel
theorem dX11_init_7 : decode cX11_init 7 = .ok (.newarray .int, 2) := by decide +kernel
theorem dX11_init_9 : decode cX11_init 9 = .ok (.putfield 7, 3) := by decide +kernel
theorem dX11_init_12 : decode cX11_init 12 = .ok (.aload_n 0, 1) := by decide +kernel
theorem dX11_init_13 : decode cX11_init 13 = .ok (.iconst 2, 1) := by decide +kernel
theorem dX11_init_14 : decode cX11_init 14 = .ok (.newarray .int, 2) := by decide +kernel
theorem dX11_init_16 : decode cX11_init 16 = .ok (.putfield 13, 3) := by decide +kernel
theorem dX11_init_19 : decode cX11_init 19 = .ok (.aload_n 0, 1) := by decide +kernel
theorem dX11_init_20 : decode cX11_init 20 = .ok (.iconst 2, 1) := by decide +kernel
theorem dX11_init_21 : decode cX11_init 21 = .ok (.newarray .int, 2) := by decide +kernel
theorem dX11_init_23 : decode cX11_init 23 = .ok (.putfield 16, 3) := by decide +kernel
theorem dX11_init_26 : decode cX11_init 26 = .ok (.aload_n 0, 1) := by decide +kernel
theorem dX11_init_27 : decode cX11_init 27 = .ok (.iconst 2, 1) := by decide +kernel
theorem dX11_init_28 : decode cX11_init 28 = .ok (.newarray .int, 2) := by decide +kernel
theorem dX11_init_30 : decode cX11_init 30 = .ok (.putfield 19, 3) := by decide +kernel
theorem dX11_init_33 : decode cX11_init 33 = .ok (.aload_n 0, 1) := by decide +kernel
theorem dX11_init_34 : decode cX11_init 34 = .ok (.iconst 3, 1) := by decide +kernel
theorem dX11_init_35 : decode cX11_init 35 = .ok (.newarray .int, 2) := by decide +kernel
theorem dX11_init_37 : decode cX11_init 37 = .ok (.putfield 22, 3) := by decide +kernel
theorem dX11_init_40 : decode cX11_init 40 = .ok (.aload_n 0, 1) := by decide +kernel
theorem dX11_init_41 : decode cX11_init 41 = .ok (.bipush 6, 2) := by decide +kernel
theorem dX11_init_43 : decode cX11_init 43 = .ok (.putfield 25, 3) := by decide +kernel
theorem dX11_init_46 : decode cX11_init 46 = .ok (.aload_n 0, 1) := by decide +kernel
theorem dX11_init_47 : decode cX11_init 47 = .ok (.bipush 6, 2) := by decide +kernel
theorem dX11_init_49 : decode cX11_init 49 = .ok (.putfield 29, 3) := by decide +kernel
theorem dX11_init_52 : decode cX11_init 52 = .ok (.aload_n 0, 1) := by decide +kernel
theorem dX11_init_53 : decode cX11_init 53 = .ok (.iconst 4, 1) := by decide +kernel
theorem dX11_init_54 : decode cX11_init 54 = .ok (.putfield 32, 3) := by decide +kernel
theorem dX11_init_57 : decode cX11_init 57 = .ok (.aload_n 0, 1) := by decide +kernel
theorem dX11_init_58 : decode cX11_init 58 = .ok (.iconst 4, 1) := by decide +kernel
theorem dX11_init_59 : decode cX11_init 59 = .ok (.newarray .int, 2) := by decide +kernel
theorem dX11_init_61 : decode cX11_init 61 = .ok (.putfield 35, 3) := by decide +kernel
theorem dX11_init_64 : decode cX11_init 64 = .ok (.aload_n 0, 1) := by decide +kernel
theorem dX11_init_65 : decode cX11_init 65 = .ok (.iconst 4, 1) := by decide +kernel
theorem dX11_init_66 : decode cX11_init 66 = .ok (.newarray .int, 2) := by decide +kernel
theorem dX11_init_68 : decode cX11_init 68 = .ok (.putfield 38, 3) := by decide +kernel
theorem dX11_init_71 : decode cX11_init 71 = .ok (.aload_n 0, 1) := by decide +kernel
theorem dX11_init_72 : decode cX11_init 72 = .ok (.bipush 64, 2) := by decide +kernel
theorem dX11_init_74 : decode cX11_init 74 = .ok (.newarray .int, 2) := by decide +kernel
theorem dX11_init_76 : decode cX11_init 76 = .ok (.putfield 41, 3) := by decide +kernel
theorem dX11_init_79 : decode cX11_init 79 = .ok (.aload_n 0, 1) := by decide +kernel
theorem dX11_init_80 : decode cX11_init 80 = .ok (.sipush 192, 3) := by decide +kernel
theorem dX11_init_83 : decode cX11_init 83 = .ok (.newarray .int, 2) := by decide +kernel
theorem dX11_init_85 : decode cX11_init 85 = .ok (.putfield 44, 3) := by decide +kernel
theorem dX11_init_88 : decode cX11_init 88 = .ok (.aload_n 0, 1) := by decide +kernel
theorem dX11_init_89 : decode cX11_init 89 = .ok (.bipush 64, 2) := by decide +kernel
theorem dX11_init_91 : decode cX11_init 91 = .ok (.newarray .int, 2) := by decide +kernel
theorem dX11_init_93 : decode cX11_init 93 = .ok (.putfield 47, 3) := by decide +kernel
theorem dX11_init_96 : decode cX11_init 96 = .ok (.aload_n 0, 1) := by decide +kernel
theorem dX11_init_97 : decode cX11_init 97 = .ok (.sipush 192, 3) := by decide +kernel
theorem dX11_init_100 : decode cX11_init 100 = .ok (.newarray .int, 2) := by decide +kernel
theorem dX11_init_102 : decode cX11_init 102 = .ok (.putfield 50, 3) := by decide +kernel
theorem dX11_init_105 : decode cX11_init 105 = .ok (.aload_n 0, 1) := by decide +kernel
theorem dX11_init_106 : decode cX11_init 106 = .ok (.bipush 64, 2) := by decide +kernel
theorem dX11_init_108 : decode cX11_init 108 = .ok (.newarray .int, 2) := by decide +kernel
theorem dX11_init_110 : decode cX11_init 110 = .ok (.putfield 53, 3) := by decide +kernel
theorem dX11_init_113 : decode cX11_init 113 = .ok (.aload_n 0, 1) := by decide +kernel
theorem dX11_init_114 : decode cX11_init 114 = .ok (.sipush 256, 3) := by decide +kernel
theorem dX11_init_117 : decode cX11_init 117 = .ok (.newarray .int, 2) := by decide +kernel
theorem dX11_init_119 : decode cX11_init 119 = .ok (.putfield 56, 3) := by decide +kernel
theorem dX11_init_122 : decode cX11_init 122 = .ok (.aload_n 0, 1) := by decide +kernel
theorem dX11_init_123 : decode cX11_init 123 = .ok (.sipush 256, 3) := by decide +kernel
theorem dX11_init_126 : decode cX11_init 126 = .ok (.newarray .int, 2) := by decide +kernel
theorem dX11_init_128 : decode cX11_init 128 = .ok (.putfield 59, 3) := by decide +kernel
theorem dX11_init_131 : decode cX11_init 131 = .ok (.aload_n 0, 1) := by decide +kernel
theorem dX11_init_132 : decode cX11_init 132 = .ok (.sipush 256, 3) := by decide +kernel
theorem dX11_init_135 : decode cX11_init 135 = .ok (.newarray .int, 2) := by decide +kernel
theorem dX11_init_137 : decode cX11_init 137 = .ok (.putfield 62, 3) := by decide +kernel
theorem dX11_init_140 : decode cX11_init 140 = .ok (.aload_n 0, 1) := by decide +kernel
theorem dX11_init_141 : decode cX11_init 141 = .ok (.sipush 400, 3) := by decide +kernel
theorem dX11_init_144 : decode cX11_init 144 = .ok (.newarray .int, 2) := by decide +kernel
theorem dX11_init_146 : decode cX11_init 146 = .ok (.putfield 65, 3) := by decide +kernel
theorem dX11_init_149 : decode cX11_init 149 = .ok (.aload_n 0, 1) := by decide +kernel
theorem dX11_init_150 : decode cX11_init 150 = .ok (.sipush 144, 3) := by decide +kernel
theorem dX11_init_153 : decode cX11_init 153 = .ok (.newarray .int, 2) := by decide +kernel
theorem dX11_init_155 : decode cX11_init 155 = .ok (.putfield 68, 3) := by decide +kernel
theorem dX11_init_158 : decode cX11_init 158 = .ok (.aload_n 0, 1) := by decide +kernel
theorem dX11_init_159 : decode cX11_init 159 = .ok (.sipush 144, 3) := by decide +kernel
theorem dX11_init_162 : decode cX11_init 162 = .ok (.newarray .int, 2) := by decide +kernel
theorem dX11_init_164 : decode cX11_init 164 = .ok (.putfield 71, 3) := by decide +kernel
theorem dX11_init_167 : decode cX11_init 167 = .ok (.aload_n 0, 1) := by decide +kernel
theorem dX11_init_168 : decode cX11_init 168 = .ok (.bipush 48, 2) := by decide +kernel
theorem dX11_init_170 : decode cX11_init 170 = .ok (.newarray .int, 2) := by decide +kernel
theorem dX11_init_172 : decode cX11_init 172 = .ok (.putfield 74, 3) := by decide +kernel
theorem dX11_init_175 : decode cX11_init 175 = .ok (.aload_n 0, 1) := by decide +kernel
theorem dX11_init_176 : decode cX11_init 176 = .ok (.bipush 48, 2) := by decide +kernel
theorem dX11_init_178 : decode cX11_init 178 = .ok (.newarray .int, 2) := by decide +kernel
theorem dX11_init_180 : decode cX11_init 180 = .ok (.putfield 77, 3) := by decide +kernel
theorem dX11_init_183 : decode cX11_init 183 = .ok (.aload_n 0, 1) := by decide +kernel
theorem dX11_init_184 : decode cX11_init 184 = .ok (.bipush 24, 2) := by decide +kernel
theorem dX11_init_186 : decode cX11_init 186 = .ok (.newarray .int, 2) := by decide +kernel
theorem dX11_init_188 : decode cX11_init 188 = .ok (.putfield 80, 3) := by decide +kernel
theorem dX11_init_191 : decode cX11_init 191 = .ok (.aload_n 0, 1) := by decide +kernel
theorem dX11_init_192 : decode cX11_init 192 = .ok (.bipush 24, 2) := by decide +kernel
theorem dX11_init_194 : decode cX11_init 194 = .ok (.newarray .int, 2) := by decide +kernel
theorem dX11_init_196 : decode cX11_init 196 = .ok (.putfield 83, 3) := by decide +kernel
theorem dX11_init_199 : decode cX11_init 199 = .ok (.aload_n 0, 1) := by decide +kernel
theorem dX11_init_200 : decode cX11_init 200 = .ok (.bipush 24, 2) := by decide +kernel
theorem dX11_init_202 : decode cX11_init 202 = .ok (.newarray .int, 2) := by decide +kernel
theorem dX11_init_204 : decode cX11_init 204 = .ok (.putfield 86, 3) := by decide +kernel
theorem dX11_init_207 : decode cX11_init 207 = .ok (.aload_n 0, 1) := by decide +kernel
theorem dX11_init_208 : decode cX11_init 208 = .ok (.bipush 48, 2) := by decide +kernel
theorem dX11_init_210 : decode cX11_init 210 = .ok (.newarray .int, 2) := by decide +kernel
theorem dX11_init_212 : decode cX11_init 212 = .ok (.putfield 89, 3) := by decide +kernel
theorem dX11_init_215 : decode cX11_init 215 = .ok (.aload_n 0, 1) := by decide +kernel
theorem dX11_init_216 : decode cX11_init 216 = .ok (.iconst 2, 1) := by decide +kernel
theorem dX11_init_217 : decode cX11_init 217 = .ok (.newarray .int, 2) := by decide +kernel
theorem dX11_init_219 : decode cX11_init 219 = .ok (.putfield 92, 3) := by decide +kernel
theorem dX11_init_222 : decode cX11_init 222 = .ok (.aload_n 0, 1) := by decide +kernel
theorem dX11_init_223 : decode cX11_init 223 = .ok (.iconst 5, 1) := by decide +kernel
theorem dX11_init_224 : decode cX11_init 224 = .ok (.newarray .int, 2) := by decide +kernel
theorem dX11_init_226 : decode cX11_init 226 = .ok (.putfield 95, 3) := by decide +kernel
theorem dX11_init_229 : decode cX11_init 229 = .ok (.aload_n 0, 1) := by decide +kernel
theorem dX11_init_230 : decode cX11_init 230 = .ok (.sipush 816, 3) := by decide +kernel
theorem dX11_init_233 : decode cX11_init 233 = .ok (.newarray .int, 2) := by decide +kernel
theorem dX11_init_235 : decode cX11_init 235 = .ok (.putfield 98, 3) := by decide +kernel
theorem dX11_init_238 : decode cX11_init 238 = .ok (.aload_n 0, 1) := by decide +kernel
theorem dX11_init_239 : decode cX11_init 239 = .ok (.bipush 20, 2) := by decide +kernel
theorem dX11_init_241 : decode cX11_init 241 = .ok (.newarray .int, 2) := by decide +kernel
theorem dX11_init_243 : decode cX11_init 243 = .ok (.putfield 101, 3) := by decide +kernel
theorem dX11_init_246 : decode cX11_init 246 = .ok (.aload_n 0, 1) := by decide +kernel
theorem dX11_init_247 : decode cX11_init 247 = .ok (.bipush 20, 2) := by decide +kernel
theorem dX11_init_249 : decode cX11_init 249 = .ok (.newarray .int, 2) := by decide +kernel
theorem dX11_init_251 : decode cX11_init 251 = .ok (.putfield 104, 3) := by decide +kernel
theorem dX11_init_254 : decode cX11_init 254 = .ok (.aload_n 0, 1) := by decide +kernel
theorem dX11_init_255 : decode cX11_init 255 = .ok (.bipush 20, 2) := by decide +kernel
theorem dX11_init_257 : decode cX11_init 257 = .ok (.newarray .int, 2) := by decide +kernel
theorem dX11_init_259 : decode cX11_init 259 = .ok (.putfield 107, 3) := by decide +kernel
theorem dX11_init_262 : decode cX11_init 262 = .ok (.aload_n 0, 1) := by decide +kernel
theorem dX11_init_263 : decode cX11_init 263 = .ok (.bipush 8, 2) := by decide +kernel
theorem dX11_init_265 : decode cX11_init 265 = .ok (.newarray .int, 2) := by decide +kernel
theorem dX11_init_267 : decode cX11_init 267 = .ok (.putfield 110, 3) := by decide +kernel
theorem dX11_init_270 : decode cX11_init 270 = .ok (.aload_n 0, 1) := by decide +kernel
theorem dX11_init_271 : decode cX11_init 271 = .ok (.bipush 8, 2) := by decide +kernel
theorem dX11_init_273 : decode cX11_init 273 = .ok (.newarray .int, 2) := by decide +kernel
theorem dX11_init_275 : decode cX11_init 275 = .ok (.putfield 113, 3) := by decide +kernel
theorem dX11_init_278 : decode cX11_init 278 = .ok (.aload_n 0, 1) := by decide +kernel
theorem dX11_init_279 : decode cX11_init 279 = .ok (.bipush 8, 2) := by decide +kernel
theorem dX11_init_281 : decode cX11_init 281 = .ok (.newarray .int, 2) := by decide +kernel
theorem dX11_init_283 : decode cX11_init 283 = .ok (.putfield 116, 3) := by decide +kernel
theorem dX11_init_286 : decode cX11_init 286 = .ok (.aload_n 0, 1) := by decide +kernel
theorem dX11_init_287 : decode cX11_init 287 = .ok (.bipush 8, 2) := by decide +kernel
theorem dX11_init_289 : decode cX11_init 289 = .ok (.newarray .int, 2) := by decide +kernel
theorem dX11_init_291 : decode cX11_init 291 = .ok (.putfield 119, 3) := by decide +kernel
theorem dX11_init_294 : decode cX11_init 294 = .ok (.aload_n 0, 1) := by decide +kernel
theorem dX11_init_295 : decode cX11_init 295 = .ok (.sipush 256, 3) := by decide +kernel
theorem dX11_init_298 : decode cX11_init 298 = .ok (.newarray .int, 2) := by decide +kernel
theorem dX11_init_300 : decode cX11_init 300 = .ok (.putfield 122, 3) := by decide +kernel
theorem dX11_init_303 : decode cX11_init 303 = .ok (.iconst 0, 1) := by decide +kernel
theorem dX11_init_304 : decode cX11_init 304 = .ok (.istore_n 1, 1) := by decide +kernel
theorem dX11_init_305 : decode cX11_init 305 = .ok (.iload_n 1, 1) := by decide +kernel
theorem dX11_init_306 : decode cX11_init 306 = .ok (.bipush 81, 2) := by decide +kernel
theorem dX11_init_308 : decode cX11_init 308 = .ok (.if_icmp .ge 95, 3) := by decide +kernel
theorem dX11_init_311 : decode cX11_init 311 = .ok (.aload_n 0, 1) := by decide +kernel
theorem dX11_init_312 : decode cX11_init 312 = .ok (.getfield 7, 3) := by decide +kernel
theorem dX11_init_315 : decode cX11_init 315 = .ok (.iload_n 1, 1) := by decide +kernel
theorem dX11_init_316 : decode cX11_init 316 = .ok (.iconst 1, 1) := by decide +kernel
theorem dX11_init_317 : decode cX11_init 317 = .ok (.iadd, 1) := by decide +kernel
theorem dX11_init_318 : decode cX11_init 318 = .ok (.iconst 4, 1) := by decide +kernel
theorem dX11_init_319 : decode cX11_init 319 = .ok (.iastore, 1) := by decide +kernel
theorem dX11_init_320 : decode cX11_init 320 = .ok (.aload_n 0, 1) := by decide +kernel
theorem dX11_init_321 : decode cX11_init 321 = .ok (.getfield 7, 3) := by decide +kernel
theorem dX11_init_324 : decode cX11_init 324 = .ok (.iload_n 1, 1) := by decide +kernel
theorem dX11_init_325 : decode cX11_init 325 = .ok (.iconst 2, 1) := by decide +kernel
theorem dX11_init_326 : decode cX11_init 326 = .ok (.iadd, 1) := by decide +kernel
theorem dX11_init_327 : decode cX11_init 327 = .ok (.bipush 20, 2) := by decide +kernel
theorem dX11_init_329 : decode cX11_init 329 = .ok (.iastore, 1) := by decide +kernel
theorem dX11_init_330 : decode cX11_init 330 = .ok (.aload_n 0, 1) := by decide +kernel
theorem dX11_init_331 : decode cX11_init 331 = .ok (.getfield 7, 3) := by decide +kernel
theorem dX11_init_334 : decode cX11_init 334 = .ok (.iload_n 1, 1) := by decide +kernel
theorem dX11_init_335 : decode cX11_init 335 = .ok (.iconst 3, 1) := by decide +kernel
theorem dX11_init_336 : decode cX11_init 336 = .ok (.iadd, 1) := by decide +kernel
theorem dX11_init_337 : decode cX11_init 337 = .ok (.bipush 60, 2) := by decide +kernel
theorem dX11_init_339 : decode cX11_init 339 = .ok (.iastore, 1) := by decide +kernel
theorem dX11_init_340 : decode cX11_init 340 = .ok (.aload_n 0, 1) := by decide +kernel
theorem dX11_init_341 : decode cX11_init 341 = .ok (.getfield 7, 3) := by decide +kernel
theorem dX11_init_344 : decode cX11_init 344 = .ok (.iload_n 1, 1) := by decide +kernel
theorem dX11_init_345 : decode cX11_init 345 = .ok (.iconst 4, 1) := by decide +kernel
theorem dX11_init_346 : decode cX11_init 346 = .ok (.iadd, 1) := by decide +kernel
theorem dX11_init_347 : decode cX11_init 347 = .ok (.bipush 110, 2) := by decide +kernel
theorem dX11_init_349 : decode cX11_init 349 = .ok (.iastore, 1) := by decide +kernel
theorem dX11_init_350 : decode cX11_init 350 = .ok (.aload_n 0, 1) := by decide +kernel
theorem dX11_init_351 : decode cX11_init 351 = .ok (.getfield 7, 3) := by decide +kernel
theorem dX11_init_354 : decode cX11_init 354 = .ok (.iload_n 1, 1) := by decide +kernel
theorem dX11_init_355 : decode cX11_init 355 = .ok (.iconst 5, 1) := by decide +kernel
theorem dX11_init_356 : decode cX11_init 356 = .ok (.iadd, 1) := by decide +kernel
theorem dX11_init_357 : decode cX11_init 357 = .ok (.sipush 160, 3) := by decide +kernel
theorem dX11_init_360 : decode cX11_init 360 = .ok (.iastore, 1) := by decide +kernel
theorem dX11_init_361 : decode cX11_init 361 = .ok (.aload_n 0, 1) := by decide +kernel
theorem dX11_init_362 : decode cX11_init 362 = .ok (.getfield 7, 3) := by decide +kernel
theorem dX11_init_365 : decode cX11_init 365 = .ok (.iload_n 1, 1) := by decide +kernel
theorem dX11_init_366 : decode cX11_init 366 = .ok (.bipush 6, 2) := by decide +kernel
theorem dX11_init_368 : decode cX11_init 368 = .ok (.iadd, 1) := by decide +kernel
theorem dX11_init_369 : decode cX11_init 369 = .ok (.sipush 205, 3) := by decide +kernel
theorem dX11_init_372 : decode cX11_init 372 = .ok (.iastore, 1) := by decide +kernel
theorem dX11_init_373 : decode cX11_init 373 = .ok (.aload_n 0, 1) := by decide +kernel
theorem dX11_init_374 : decode cX11_init 374 = .ok (.getfield 7, 3) := by decide +kernel
theorem dX11_init_377 : decode cX11_init 377 = .ok (.iload_n 1, 1) := by decide +kernel
theorem dX11_init_378 : decode cX11_init 378 = .ok (.bipush 7, 2) := by decide +kernel
theorem dX11_init_380 : decode cX11_init 380 = .ok (.iadd, 1) := by decide +kernel
theorem dX11_init_381 : decode cX11_init 381 = .ok (.sipush 235, 3) := by decide +kernel
theorem dX11_init_384 : decode cX11_init 384 = .ok (.iastore, 1) := by decide +kernel
theorem dX11_init_385 : decode cX11_init 385 = .ok (.aload_n 0, 1) := by decide +kernel
theorem dX11_init_386 : decode cX11_init 386 = .ok (.getfield 7, 3) := by decide +kernel
theorem dX11_init_389 : decode cX11_init 389 = .ok (.iload_n 1, 1) := by decide +kernel
theorem dX11_init_390 : decode cX11_init 390 = .ok (.bipush 8, 2) := by decide +kernel
theorem dX11_init_392 : decode cX11_init 392 = .ok (.iadd, 1) := by decide +kernel
theorem dX11_init_393 : decode cX11_init 393 = .ok (.sipush 250, 3) := by decide +kernel
theorem dX11_init_396 : decode cX11_init 396 = .ok (.iastore, 1) := by decide +kernel
theorem dX11_init_397 : decode cX11_init 397 = .ok (.iinc 1 9, 3) := by decide +kernel
theorem dX11_init_400 : decode cX11_init 400 = .ok (.goto (-95), 3) := by decide +kernel
theorem dX11_init_403 : decode cX11_init 403 = .ok (.iconst 0, 1) := by decide +kernel
theorem dX11_init_404 : decode cX11_init 404 = .ok (.istore_n 1, 1) := by decide +kernel
theorem dX11_init_405 : decode cX11_init 405 = .ok (.iload_n 1, 1) := by decide +kernel
theorem dX11_init_406 : decode cX11_init 406 = .ok (.iconst 2, 1) := by decide +kernel
theorem dX11_init_407 : decode cX11_init 407 = .ok (.if_icmp .ge 25, 3) := by decide +kernel
theorem dX11_init_410 : decode cX11_init 410 = .ok (.aload_n 0, 1) := by decide +kernel
theorem dX11_init_411 : decode cX11_init 411 = .ok (.getfield 13, 3) := by decide +kernel
theorem dX11_init_414 : decode cX11_init 414 = .ok (.iload_n 1, 1) := by decide +kernel
theorem dX11_init_415 : decode cX11_init 415 = .ok (.sipush 800, 3) := by decide +kernel
theorem dX11_init_418 : decode cX11_init 418 = .ok (.iastore, 1) := by decide +kernel
theorem dX11_init_419 : decode cX11_init 419 = .ok (.aload_n 0, 1) := by decide +kernel
theorem dX11_init_420 : decode cX11_init 420 = .ok (.getfield 16, 3) := by decide +kernel
theorem dX11_init_423 : decode cX11_init 423 = .ok (.iload_n 1, 1) := by decide +kernel
theorem dX11_init_424 : decode cX11_init 424 = .ok (.iconst 5, 1) := by decide +kernel
theorem dX11_init_425 : decode cX11_init 425 = .ok (.iastore, 1) := by decide +kernel
theorem dX11_init_426 : decode cX11_init 426 = .ok (.iinc 1 1, 3) := by decide +kernel
theorem dX11_init_429 : decode cX11_init 429 = .ok (.goto (-24), 3) := by decide +kernel
theorem dX11_init_432 : decode cX11_init 432 = .ok (.iconst 0, 1) := by decide +kernel
theorem dX11_init_433 : decode cX11_init 433 = .ok (.istore_n 1, 1) := by decide +kernel
theorem dX11_init_434 : decode cX11_init 434 = .ok (.iload_n 1, 1) := by decide +kernel
theorem dX11_init_435 : decode cX11_init 435 = .ok (.bipush 48, 2) := by decide +kernel
theorem dX11_init_437 : decode cX11_init 437 = .ok (.if_icmp .ge 24, 3) := by decide +kernel
theorem dX11_init_440 : decode cX11_init 440 = .ok (.aload_n 0, 1) := by decide +kernel
theorem dX11_init_441 : decode cX11_init 441 = .ok (.getfield 68, 3) := by decide +kernel
theorem dX11_init_444 : decode cX11_init 444 = .ok (.iload_n 1, 1) := by decide +kernel
theorem dX11_init_445 : decode cX11_init 445 = .ok (.bipush 30, 2) := by decide +kernel
theorem dX11_init_447 : decode cX11_init 447 = .ok (.iastore, 1) := by decide +kernel
theorem dX11_init_448 : decode cX11_init 448 = .ok (.aload_n 0, 1) := by decide +kernel
theorem dX11_init_449 : decode cX11_init 449 = .ok (.getfield 71, 3) := by decide +kernel
theorem dX11_init_452 : decode cX11_init 452 = .ok (.iload_n 1, 1) := by decide +kernel
theorem dX11_init_453 : decode cX11_init 453 = .ok (.iconst (-1), 1) := by decide +kernel
theorem dX11_init_454 : decode cX11_init 454 = .ok (.iastore, 1) := by decide +kernel
theorem dX11_init_455 : decode cX11_init 455 = .ok (.iinc 1 1, 3) := by decide +kernel
theorem dX11_init_458 : decode cX11_init 458 = .ok (.goto (-24), 3) := by decide +kernel
theorem dX11_init_461 : decode cX11_init 461 = .ok (.iconst 0, 1) := by decide +kernel
theorem dX11_init_462 : decode cX11_init 462 = .ok (.istore_n 1, 1) := by decide +kernel
theorem dX11_init_463 : decode cX11_init 463 = .ok (.iload_n 1, 1) := by decide +kernel
theorem dX11_init_464 : decode cX11_init 464 = .ok (.bipush 16, 2) := by decide +kernel
theorem dX11_init_466 : decode cX11_init 466 = .ok (.if_icmp .ge 24, 3) := by decide +kernel
theorem dX11_init_469 : decode cX11_init 469 = .ok (.aload_n 0, 1) := by decide +kernel
theorem dX11_init_470 : decode cX11_init 470 = .ok (.getfield 74, 3) := by decide +kernel
theorem dX11_init_473 : decode cX11_init 473 = .ok (.iload_n 1, 1) := by decide +kernel
theorem dX11_init_474 : decode cX11_init 474 = .ok (.iconst (-1), 1) := by decide +kernel
theorem dX11_init_475 : decode cX11_init 475 = .ok (.iastore, 1) := by decide +kernel
theorem dX11_init_476 : decode cX11_init 476 = .ok (.aload_n 0, 1) := by decide +kernel
theorem dX11_init_477 : decode cX11_init 477 = .ok (.getfield 89, 3) := by decide +kernel
theorem dX11_init_480 : decode cX11_init 480 = .ok (.iload_n 1, 1) := by decide +kernel
theorem dX11_init_481 : decode cX11_init 481 = .ok (.bipush 100, 2) := by decide +kernel
theorem dX11_init_483 : decode cX11_init 483 = .ok (.iastore, 1) := by decide +kernel
theorem dX11_init_484 : decode cX11_init 484 = .ok (.iinc 1 1, 3) := by decide +kernel
theorem dX11_init_487 : decode cX11_init 487 = .ok (.goto (-24), 3) := by decide +kernel
theorem dX11_init_490 : decode cX11_init 490 = .ok (.return_, 1) := by decide +kernel
def LX11_init_100_305 (k403 : Mem → Option Res) : Nat → Int → Mem → Option Res
  | 0 => fun _ _ => none
  | n + 1 => fun x1 s => (if 81 ≤ x1 then
 k403 s
 else
 ST s 101 (wr (x1 + 1)) 81 4 (fun s39 =>
 ST s39 101 (wr (x1 + 2)) 81 20 (fun s40 =>
 ST s40 101 (wr (x1 + 3)) 81 60 (fun s41 =>
 ST s41 101 (wr (x1 + 4)) 81 110 (fun s42 =>
 ST s42 101 (wr (x1 + 5)) 81 160 (fun s43 =>
 ST s43 101 (wr (x1 + 6)) 81 205 (fun s44 =>
 ST s44 101 (wr (x1 + 7)) 81 235 (fun s45 =>
 ST s45 101 (wr (x1 + 8)) 81 250 (fun s46 =>
 LX11_init_100_305 k403 n (wr (x1 + 9)) s46)))))))))
def LX11_init_100_405 (k432 : Mem → Option Res) : Nat → Int → Mem → Option Res
  | 0 => fun _ _ => none
  | n + 1 => fun x1 s => (if 2 ≤ x1 then
 k432 s
 else
 ST s 102 x1 2 800 (fun s48 =>
 ST s48 103 x1 2 5 (fun s49 =>
 LX11_init_100_405 k432 n (wr (x1 + 1)) s49)))
def LX11_init_100_434 (k461 : Mem → Option Res) : Nat → Int → Mem → Option Res
  | 0 => fun _ _ => none
  | n + 1 => fun x1 s => (if 48 ≤ x1 then
 k461 s
 else
 ST s 117 x1 144 30 (fun s51 =>
 ST s51 118 x1 144 (-1) (fun s52 =>
 LX11_init_100_434 k461 n (wr (x1 + 1)) s52)))
def LX11_init_100_463 (k490 : Mem → Option Res) : Nat → Int → Mem → Option Res
  | 0 => fun _ _ => none
  | n + 1 => fun x1 s => (if 16 ≤ x1 then
 k490 s
 else
 ST s 119 x1 48 (-1) (fun s54 =>
 ST s54 124 x1 48 100 (fun s55 =>
 LX11_init_100_463 k490 n (wr (x1 + 1)) s55)))
def fX11_init_100 (s0 : Mem) : Option Res :=
 lt (zm s0 101) (fun s1 =>
 lt (zm s1 102) (fun s2 =>
 lt (zm s2 103) (fun s3 =>
 lt (zm s3 104) (fun s4 =>
 lt (zm s4 105) (fun s5 =>
 lt (up s5 100 5 6) (fun s6 =>
 lt (up s6 100 6 6) (fun s7 =>
 lt (up s7 100 8 4) (fun s8 =>
 lt (zm s8 106) (fun s9 =>
 lt (zm s9 107) (fun s10 =>
 lt (zm s10 108) (fun s11 =>
 lt (zm s11 109) (fun s12 =>
 lt (zm s12 110) (fun s13 =>
 lt (zm s13 111) (fun s14 =>
 lt (zm s14 112) (fun s15 =>
 lt (zm s15 113) (fun s16 =>
 lt (zm s16 114) (fun s17 =>
 lt (zm s17 115) (fun s18 =>
 lt (zm s18 116) (fun s19 =>
 lt (zm s19 117) (fun s20 =>
 lt (zm s20 118) (fun s21 =>
 lt (zm s21 119) (fun s22 =>
 lt (zm s22 120) (fun s23 =>
 lt (zm s23 121) (fun s24 =>
 lt (zm s24 122) (fun s25 =>
 lt (zm s25 123) (fun s26 =>
 lt (zm s26 124) (fun s27 =>
 lt (zm s27 125) (fun s28 =>
 lt (zm s28 126) (fun s29 =>
 lt (zm s29 127) (fun s30 =>
 lt (zm s30 128) (fun s31 =>
 lt (zm s31 129) (fun s32 =>
 lt (zm s32 130) (fun s33 =>
 lt (zm s33 131) (fun s34 =>
 lt (zm s34 132) (fun s35 =>
 lt (zm s35 133) (fun s36 =>
 lt (zm s36 134) (fun s37 =>
 lt (zm s37 135) (fun s38 =>
 LX11_init_100_305 (fun s47 =>
 LX11_init_100_405 (fun s50 =>
 LX11_init_100_434 (fun s53 =>
 LX11_init_100_463 (fun s56 =>
 some (0, s56)) FU 0 s53) FU 0 s50) FU 0 s47) FU 0 s38))))))))))))))))))))))))))))))))))))))
set_option maxRecDepth 100000 in
set_option maxHeartbeats 4000000 in
theorem jLX11_init_100_305 {K : KZ}  (k403 : Mem → Option Res) (hk403 : ∀ (s : Mem), JZ K rmX11_init_100 cX11_init RX11 2 (ZC 136 [100, 0]) (35, 3517) 403 [some (.inr (.inr 100)), none] [] s (k403 s)) : ∀ (n : Nat) (x1 : Int) (s : Mem), JZ K rmX11_init_100 cX11_init RX11 2 (ZC 136 [100, 0]) (35, 3517) 305 [some (.inr (.inr 100)), some (.inl x1)] [] s (LX11_init_100_305 k403 n x1 s) := by
  intro n
  induction n with
  | zero => intros; exact JZ_none
  | succ n ih =>
    intro x1 s
    show JZ K _ _ _ _ _ _ _ _ _ _ (LX11_init_100_305 k403 (n + 1) x1 s)
    simp only [LX11_init_100_305]
    refine z_iload_n dX11_init_305 rfl rfl ?_
    refine z_bipush (v := 81) dX11_init_306 (by decide +kernel) (inr_d rfl) ?_
    refine z_icmp_ge (tgt := 403) dX11_init_308 rfl ?_ ?_
    · exact z_msk [true, false] (hk403 _)
    · refine z_aload_n dX11_init_311 rfl rfl ?_
      refine z_getR (fs := [some (some 101), some (some 102), some (some 103), some (some 104), some (some 105), none, none, none, none, some (some 106), some (some 107), some (some 108), some (some 109), some (some 110), some (some 111), some (some 112), some (some 113), some (some 114), some (some 115), none, none, some (some 116), some (some 117), some (some 118), some (some 119), some (some 120), some (some 121), some (some 122), some (some 123), some (some 124), some (some 125), none, none, none, some (some 126), none, none, some (some 127), none, some (some 128), some (some 129), some (some 130), none, some (some 131), some (some 132), some (some 133), some (some 134), some (some 135), none]) fl_RX11_7 (by decide +kernel) rfl dX11_init_312 ?_
      refine z_iload_n dX11_init_315 rfl rfl ?_
      refine z_iconst dX11_init_316 (inr_d rfl) ?_
      refine z_iadd dX11_init_317 ?_
      refine z_iconst dX11_init_318 (inr_d rfl) ?_
      refine z_iast (n := 81) (by decide +kernel) dX11_init_319 (fun s39 => ?_)
      refine z_aload_n dX11_init_320 rfl rfl ?_
      refine z_getR (fs := [some (some 101), some (some 102), some (some 103), some (some 104), some (some 105), none, none, none, none, some (some 106), some (some 107), some (some 108), some (some 109), some (some 110), some (some 111), some (some 112), some (some 113), some (some 114), some (some 115), none, none, some (some 116), some (some 117), some (some 118), some (some 119), some (some 120), some (some 121), some (some 122), some (some 123), some (some 124), some (some 125), none, none, none, some (some 126), none, none, some (some 127), none, some (some 128), some (some 129), some (some 130), none, some (some 131), some (some 132), some (some 133), some (some 134), some (some 135), none]) fl_RX11_7 (by decide +kernel) rfl dX11_init_321 ?_
      refine z_iload_n dX11_init_324 rfl rfl ?_
      refine z_iconst dX11_init_325 (inr_d rfl) ?_
      refine z_iadd dX11_init_326 ?_
      refine z_bipush (v := 20) dX11_init_327 (by decide +kernel) (inr_d rfl) ?_
      refine z_iast (n := 81) (by decide +kernel) dX11_init_329 (fun s40 => ?_)
      refine z_aload_n dX11_init_330 rfl rfl ?_
      refine z_getR (fs := [some (some 101), some (some 102), some (some 103), some (some 104), some (some 105), none, none, none, none, some (some 106), some (some 107), some (some 108), some (some 109), some (some 110), some (some 111), some (some 112), some (some 113), some (some 114), some (some 115), none, none, some (some 116), some (some 117), some (some 118), some (some 119), some (some 120), some (some 121), some (some 122), some (some 123), some (some 124), some (some 125), none, none, none, some (some 126), none, none, some (some 127), none, some (some 128), some (some 129), some (some 130), none, some (some 131), some (some 132), some (some 133), some (some 134), some (some 135), none]) fl_RX11_7 (by decide +kernel) rfl dX11_init_331 ?_
      refine z_iload_n dX11_init_334 rfl rfl ?_
      refine z_iconst dX11_init_335 (inr_d rfl) ?_
      refine z_iadd dX11_init_336 ?_
      refine z_bipush (v := 60) dX11_init_337 (by decide +kernel) (inr_d rfl) ?_
      refine z_iast (n := 81) (by decide +kernel) dX11_init_339 (fun s41 => ?_)
      refine z_aload_n dX11_init_340 rfl rfl ?_
      refine z_getR (fs := [some (some 101), some (some 102), some (some 103), some (some 104), some (some 105), none, none, none, none, some (some 106), some (some 107), some (some 108), some (some 109), some (some 110), some (some 111), some (some 112), some (some 113), some (some 114), some (some 115), none, none, some (some 116), some (some 117), some (some 118), some (some 119), some (some 120), some (some 121), some (some 122), some (some 123), some (some 124), some (some 125), none, none, none, some (some 126), none, none, some (some 127), none, some (some 128), some (some 129), some (some 130), none, some (some 131), some (some 132), some (some 133), some (some 134), some (some 135), none]) fl_RX11_7 (by decide +kernel) rfl dX11_init_341 ?_
      refine z_iload_n dX11_init_344 rfl rfl ?_
      refine z_iconst dX11_init_345 (inr_d rfl) ?_
      refine z_iadd dX11_init_346 ?_
      refine z_bipush (v := 110) dX11_init_347 (by decide +kernel) (inr_d rfl) ?_
      refine z_iast (n := 81) (by decide +kernel) dX11_init_349 (fun s42 => ?_)
      refine z_aload_n dX11_init_350 rfl rfl ?_
      refine z_getR (fs := [some (some 101), some (some 102), some (some 103), some (some 104), some (some 105), none, none, none, none, some (some 106), some (some 107), some (some 108), some (some 109), some (some 110), some (some 111), some (some 112), some (some 113), some (some 114), some (some 115), none, none, some (some 116), some (some 117), some (some 118), some (some 119), some (some 120), some (some 121), some (some 122), some (some 123), some (some 124), some (some 125), none, none, none, some (some 126), none, none, some (some 127), none, some (some 128), some (some 129), some (some 130), none, some (some 131), some (some 132), some (some 133), some (some 134), some (some 135), none]) fl_RX11_7 (by decide +kernel) rfl dX11_init_351 ?_
      refine z_iload_n dX11_init_354 rfl rfl ?_
      refine z_iconst dX11_init_355 (inr_d rfl) ?_
      refine z_iadd dX11_init_356 ?_
      refine z_sipush (v := 160) dX11_init_357 (by decide +kernel) (inr_d rfl) ?_
      refine z_iast (n := 81) (by decide +kernel) dX11_init_360 (fun s43 => ?_)
      refine z_aload_n dX11_init_361 rfl rfl ?_
      refine z_getR (fs := [some (some 101), some (some 102), some (some 103), some (some 104), some (some 105), none, none, none, none, some (some 106), some (some 107), some (some 108), some (some 109), some (some 110), some (some 111), some (some 112), some (some 113), some (some 114), some (some 115), none, none, some (some 116), some (some 117), some (some 118), some (some 119), some (some 120), some (some 121), some (some 122), some (some 123), some (some 124), some (some 125), none, none, none, some (some 126), none, none, some (some 127), none, some (some 128), some (some 129), some (some 130), none, some (some 131), some (some 132), some (some 133), some (some 134), some (some 135), none]) fl_RX11_7 (by decide +kernel) rfl dX11_init_362 ?_
      refine z_iload_n dX11_init_365 rfl rfl ?_
      refine z_bipush (v := 6) dX11_init_366 (by decide +kernel) (inr_d rfl) ?_
      refine z_iadd dX11_init_368 ?_
      refine z_sipush (v := 205) dX11_init_369 (by decide +kernel) (inr_d rfl) ?_
      refine z_iast (n := 81) (by decide +kernel) dX11_init_372 (fun s44 => ?_)
      refine z_aload_n dX11_init_373 rfl rfl ?_
      refine z_getR (fs := [some (some 101), some (some 102), some (some 103), some (some 104), some (some 105), none, none, none, none, some (some 106), some (some 107), some (some 108), some (some 109), some (some 110), some (some 111), some (some 112), some (some 113), some (some 114), some (some 115), none, none, some (some 116), some (some 117), some (some 118), some (some 119), some (some 120), some (some 121), some (some 122), some (some 123), some (some 124), some (some 125), none, none, none, some (some 126), none, none, some (some 127), none, some (some 128), some (some 129), some (some 130), none, some (some 131), some (some 132), some (some 133), some (some 134), some (some 135), none]) fl_RX11_7 (by decide +kernel) rfl dX11_init_374 ?_
      refine z_iload_n dX11_init_377 rfl rfl ?_
      refine z_bipush (v := 7) dX11_init_378 (by decide +kernel) (inr_d rfl) ?_
      refine z_iadd dX11_init_380 ?_
      refine z_sipush (v := 235) dX11_init_381 (by decide +kernel) (inr_d rfl) ?_
      refine z_iast (n := 81) (by decide +kernel) dX11_init_384 (fun s45 => ?_)
      refine z_aload_n dX11_init_385 rfl rfl ?_
      refine z_getR (fs := [some (some 101), some (some 102), some (some 103), some (some 104), some (some 105), none, none, none, none, some (some 106), some (some 107), some (some 108), some (some 109), some (some 110), some (some 111), some (some 112), some (some 113), some (some 114), some (some 115), none, none, some (some 116), some (some 117), some (some 118), some (some 119), some (some 120), some (some 121), some (some 122), some (some 123), some (some 124), some (some 125), none, none, none, some (some 126), none, none, some (some 127), none, some (some 128), some (some 129), some (some 130), none, some (some 131), some (some 132), some (some 133), some (some 134), some (some 135), none]) fl_RX11_7 (by decide +kernel) rfl dX11_init_386 ?_
      refine z_iload_n dX11_init_389 rfl rfl ?_
      refine z_bipush (v := 8) dX11_init_390 (by decide +kernel) (inr_d rfl) ?_
      refine z_iadd dX11_init_392 ?_
      refine z_sipush (v := 250) dX11_init_393 (by decide +kernel) (inr_d rfl) ?_
      refine z_iast (n := 81) (by decide +kernel) dX11_init_396 (fun s46 => ?_)
      refine z_iinc (ls2 := [some (.inr (.inr 100)), some (.inl (wr (x1 + 9)))]) dX11_init_397 rfl (by decide) rfl rfl ?_
      refine z_goto (tgt := 305) dX11_init_400 rfl ?_
      exact z_msk [true, true] (ih _ _)
set_option maxRecDepth 100000 in
set_option maxHeartbeats 4000000 in
theorem jLX11_init_100_405 {K : KZ}  (k432 : Mem → Option Res) (hk432 : ∀ (s : Mem), JZ K rmX11_init_100 cX11_init RX11 2 (ZC 136 [100, 0]) (35, 3517) 432 [some (.inr (.inr 100)), none] [] s (k432 s)) : ∀ (n : Nat) (x1 : Int) (s : Mem), JZ K rmX11_init_100 cX11_init RX11 2 (ZC 136 [100, 0]) (35, 3517) 405 [some (.inr (.inr 100)), some (.inl x1)] [] s (LX11_init_100_405 k432 n x1 s) := by
  intro n
  induction n with
  | zero => intros; exact JZ_none
  | succ n ih =>
    intro x1 s
    show JZ K _ _ _ _ _ _ _ _ _ _ (LX11_init_100_405 k432 (n + 1) x1 s)
    simp only [LX11_init_100_405]
    refine z_iload_n dX11_init_405 rfl rfl ?_
    refine z_iconst dX11_init_406 (inr_d rfl) ?_
    refine z_icmp_ge (tgt := 432) dX11_init_407 rfl ?_ ?_
    · exact z_msk [true, false] (hk432 _)
    · refine z_aload_n dX11_init_410 rfl rfl ?_
      refine z_getR (fs := [some (some 101), some (some 102), some (some 103), some (some 104), some (some 105), none, none, none, none, some (some 106), some (some 107), some (some 108), some (some 109), some (some 110), some (some 111), some (some 112), some (some 113), some (some 114), some (some 115), none, none, some (some 116), some (some 117), some (some 118), some (some 119), some (some 120), some (some 121), some (some 122), some (some 123), some (some 124), some (some 125), none, none, none, some (some 126), none, none, some (some 127), none, some (some 128), some (some 129), some (some 130), none, some (some 131), some (some 132), some (some 133), some (some 134), some (some 135), none]) fl_RX11_13 (by decide +kernel) rfl dX11_init_411 ?_
      refine z_iload_n dX11_init_414 rfl rfl ?_
      refine z_sipush (v := 800) dX11_init_415 (by decide +kernel) (inr_d rfl) ?_
      refine z_iast (n := 2) (by decide +kernel) dX11_init_418 (fun s48 => ?_)
      refine z_aload_n dX11_init_419 rfl rfl ?_
      refine z_getR (fs := [some (some 101), some (some 102), some (some 103), some (some 104), some (some 105), none, none, none, none, some (some 106), some (some 107), some (some 108), some (some 109), some (some 110), some (some 111), some (some 112), some (some 113), some (some 114), some (some 115), none, none, some (some 116), some (some 117), some (some 118), some (some 119), some (some 120), some (some 121), some (some 122), some (some 123), some (some 124), some (some 125), none, none, none, some (some 126), none, none, some (some 127), none, some (some 128), some (some 129), some (some 130), none, some (some 131), some (some 132), some (some 133), some (some 134), some (some 135), none]) fl_RX11_16 (by decide +kernel) rfl dX11_init_420 ?_
      refine z_iload_n dX11_init_423 rfl rfl ?_
      refine z_iconst dX11_init_424 (inr_d rfl) ?_
      refine z_iast (n := 2) (by decide +kernel) dX11_init_425 (fun s49 => ?_)
      refine z_iinc (ls2 := [some (.inr (.inr 100)), some (.inl (wr (x1 + 1)))]) dX11_init_426 rfl (by decide) rfl rfl ?_
      refine z_goto (tgt := 405) dX11_init_429 rfl ?_
      exact z_msk [true, true] (ih _ _)
set_option maxRecDepth 100000 in
set_option maxHeartbeats 4000000 in
theorem jLX11_init_100_434 {K : KZ}  (k461 : Mem → Option Res) (hk461 : ∀ (s : Mem), JZ K rmX11_init_100 cX11_init RX11 2 (ZC 136 [100, 0]) (35, 3517) 461 [some (.inr (.inr 100)), none] [] s (k461 s)) : ∀ (n : Nat) (x1 : Int) (s : Mem), JZ K rmX11_init_100 cX11_init RX11 2 (ZC 136 [100, 0]) (35, 3517) 434 [some (.inr (.inr 100)), some (.inl x1)] [] s (LX11_init_100_434 k461 n x1 s) := by
  intro n
  induction n with
  | zero => intros; exact JZ_none
  | succ n ih =>
    intro x1 s
    show JZ K _ _ _ _ _ _ _ _ _ _ (LX11_init_100_434 k461 (n + 1) x1 s)
    simp only [LX11_init_100_434]
    refine z_iload_n dX11_init_434 rfl rfl ?_
    refine z_bipush (v := 48) dX11_init_435 (by decide +kernel) (inr_d rfl) ?_
    refine z_icmp_ge (tgt := 461) dX11_init_437 rfl ?_ ?_
    · exact z_msk [true, false] (hk461 _)
    · refine z_aload_n dX11_init_440 rfl rfl ?_
      refine z_getR (fs := [some (some 101), some (some 102), some (some 103), some (some 104), some (some 105), none, none, none, none, some (some 106), some (some 107), some (some 108), some (some 109), some (some 110), some (some 111), some (some 112), some (some 113), some (some 114), some (some 115), none, none, some (some 116), some (some 117), some (some 118), some (some 119), some (some 120), some (some 121), some (some 122), some (some 123), some (some 124), some (some 125), none, none, none, some (some 126), none, none, some (some 127), none, some (some 128), some (some 129), some (some 130), none, some (some 131), some (some 132), some (some 133), some (some 134), some (some 135), none]) fl_RX11_68 (by decide +kernel) rfl dX11_init_441 ?_
      refine z_iload_n dX11_init_444 rfl rfl ?_
      refine z_bipush (v := 30) dX11_init_445 (by decide +kernel) (inr_d rfl) ?_
      refine z_iast (n := 144) (by decide +kernel) dX11_init_447 (fun s51 => ?_)
      refine z_aload_n dX11_init_448 rfl rfl ?_
      refine z_getR (fs := [some (some 101), some (some 102), some (some 103), some (some 104), some (some 105), none, none, none, none, some (some 106), some (some 107), some (some 108), some (some 109), some (some 110), some (some 111), some (some 112), some (some 113), some (some 114), some (some 115), none, none, some (some 116), some (some 117), some (some 118), some (some 119), some (some 120), some (some 121), some (some 122), some (some 123), some (some 124), some (some 125), none, none, none, some (some 126), none, none, some (some 127), none, some (some 128), some (some 129), some (some 130), none, some (some 131), some (some 132), some (some 133), some (some 134), some (some 135), none]) fl_RX11_71 (by decide +kernel) rfl dX11_init_449 ?_
      refine z_iload_n dX11_init_452 rfl rfl ?_
      refine z_iconst dX11_init_453 (inr_d rfl) ?_
      refine z_iast (n := 144) (by decide +kernel) dX11_init_454 (fun s52 => ?_)
      refine z_iinc (ls2 := [some (.inr (.inr 100)), some (.inl (wr (x1 + 1)))]) dX11_init_455 rfl (by decide) rfl rfl ?_
      refine z_goto (tgt := 434) dX11_init_458 rfl ?_
      exact z_msk [true, true] (ih _ _)
set_option maxRecDepth 100000 in
set_option maxHeartbeats 4000000 in
theorem jLX11_init_100_463 {K : KZ}  (k490 : Mem → Option Res) (hk490 : ∀ (s : Mem), JZ K rmX11_init_100 cX11_init RX11 2 (ZC 136 [100, 0]) (35, 3517) 490 [none, none] [] s (k490 s)) : ∀ (n : Nat) (x1 : Int) (s : Mem), JZ K rmX11_init_100 cX11_init RX11 2 (ZC 136 [100, 0]) (35, 3517) 463 [some (.inr (.inr 100)), some (.inl x1)] [] s (LX11_init_100_463 k490 n x1 s) := by
  intro n
  induction n with
  | zero => intros; exact JZ_none
  | succ n ih =>
    intro x1 s
    show JZ K _ _ _ _ _ _ _ _ _ _ (LX11_init_100_463 k490 (n + 1) x1 s)
    simp only [LX11_init_100_463]
    refine z_iload_n dX11_init_463 rfl rfl ?_
    refine z_bipush (v := 16) dX11_init_464 (by decide +kernel) (inr_d rfl) ?_
    refine z_icmp_ge (tgt := 490) dX11_init_466 rfl ?_ ?_
    · exact z_msk [false, false] (hk490 _)
    · refine z_aload_n dX11_init_469 rfl rfl ?_
      refine z_getR (fs := [some (some 101), some (some 102), some (some 103), some (some 104), some (some 105), none, none, none, none, some (some 106), some (some 107), some (some 108), some (some 109), some (some 110), some (some 111), some (some 112), some (some 113), some (some 114), some (some 115), none, none, some (some 116), some (some 117), some (some 118), some (some 119), some (some 120), some (some 121), some (some 122), some (some 123), some (some 124), some (some 125), none, none, none, some (some 126), none, none, some (some 127), none, some (some 128), some (some 129), some (some 130), none, some (some 131), some (some 132), some (some 133), some (some 134), some (some 135), none]) fl_RX11_74 (by decide +kernel) rfl dX11_init_470 ?_
      refine z_iload_n dX11_init_473 rfl rfl ?_
      refine z_iconst dX11_init_474 (inr_d rfl) ?_
      refine z_iast (n := 48) (by decide +kernel) dX11_init_475 (fun s54 => ?_)
      refine z_aload_n dX11_init_476 rfl rfl ?_
      refine z_getR (fs := [some (some 101), some (some 102), some (some 103), some (some 104), some (some 105), none, none, none, none, some (some 106), some (some 107), some (some 108), some (some 109), some (some 110), some (some 111), some (some 112), some (some 113), some (some 114), some (some 115), none, none, some (some 116), some (some 117), some (some 118), some (some 119), some (some 120), some (some 121), some (some 122), some (some 123), some (some 124), some (some 125), none, none, none, some (some 126), none, none, some (some 127), none, some (some 128), some (some 129), some (some 130), none, some (some 131), some (some 132), some (some 133), some (some 134), some (some 135), none]) fl_RX11_89 (by decide +kernel) rfl dX11_init_477 ?_
      refine z_iload_n dX11_init_480 rfl rfl ?_
      refine z_bipush (v := 100) dX11_init_481 (by decide +kernel) (inr_d rfl) ?_
      refine z_iast (n := 48) (by decide +kernel) dX11_init_483 (fun s55 => ?_)
      refine z_iinc (ls2 := [some (.inr (.inr 100)), some (.inl (wr (x1 + 1)))]) dX11_init_484 rfl (by decide) rfl rfl ?_
      refine z_goto (tgt := 463) dX11_init_487 rfl ?_
      exact z_msk [true, true] (ih _ _)
set_option maxRecDepth 100000 in
set_option maxHeartbeats 4000000 in
theorem mX11_init_100 (l : Launch) (D : va_G) (cA : Nat → ClassId) (s0 : Mem) : MKZ l D cA yX11_init cX11_init 2 rmX11_init_100 (35, 3517) (ZC 101 [100, 0]) (ZC 136 [100, 0]) [.inr (.inr 100)] s0 (fX11_init_100 s0) := by
  refine MKZ_of (own := RX11) (ls := [some (.inr (.inr 100)), none]) 1 (by decide +kernel) rfl rfl (fun _ => Nat.le_of_ble_eq_true rfl) (by decide +kernel) (by decide +kernel) (fun K hin hq => ?_)
  have hin := hin rfl
  unfold fX11_init_100
  refine z_aload_n dX11_init_0 rfl rfl ?_
  refine z_objInit oi_RX11_1 ⟨by decide, by decide⟩ (Nat.le_of_ble_eq_true rfl) dX11_init_1 ?_
  refine z_aload_n dX11_init_4 rfl rfl ?_
  refine z_bipush (v := 81) dX11_init_5 (by decide +kernel) (inr_d rfl) ?_
  refine z_newa (kd := 0) (N := 81) (Z2 := (ZC 102 [101, 100, 0])) (cs2 := (1, 81)) acl_0 rfl rfl (fun _ _ => rfl) rfl rfl (by decide) (by decide +kernel) (by decide +kernel) (by decide +kernel) (by decide +kernel) (by decide) rfl ⟨by decide, by decide⟩ dX11_init_7 (fun s1 => ?_)
  refine z_putR (fs := [some none, some none, some none, some none, some none, none, none, none, none, some none, some none, some none, some none, some none, some none, some none, some none, some none, some none, none, none, some none, some none, some none, some none, some none, some none, some none, some none, some none, some none, none, none, none, some none, none, none, some none, none, some none, some none, some none, none, some none, some none, some none, some none, some none, none]) (Z2 := (ZC 102 [100, 0])) hin fpr_RX11_7 (by decide +kernel) (by decide) (by decide +kernel) (by decide +kernel) dX11_init_9 ?_
  refine z_aload_n dX11_init_12 rfl rfl ?_
  refine z_iconst dX11_init_13 (inr_d rfl) ?_
  refine z_newa (kd := 0) (N := 2) (Z2 := (ZC 103 [102, 100, 0])) (cs2 := (2, 83)) acl_0 rfl rfl (fun _ _ => rfl) rfl rfl (by decide) (by decide +kernel) (by decide +kernel) (by decide +kernel) (by decide +kernel) (by decide) rfl ⟨by decide, by decide⟩ dX11_init_14 (fun s2 => ?_)
  refine z_putR (fs := [some (some 101), some none, some none, some none, some none, none, none, none, none, some none, some none, some none, some none, some none, some none, some none, some none, some none, some none, none, none, some none, some none, some none, some none, some none, some none, some none, some none, some none, some none, none, none, none, some none, none, none, some none, none, some none, some none, some none, none, some none, some none, some none, some none, some none, none]) (Z2 := (ZC 103 [100, 0])) hin fpr_RX11_13 (by decide +kernel) (by decide) (by decide +kernel) (by decide +kernel) dX11_init_16 ?_
  refine z_aload_n dX11_init_19 rfl rfl ?_
  refine z_iconst dX11_init_20 (inr_d rfl) ?_
  refine z_newa (kd := 0) (N := 2) (Z2 := (ZC 104 [103, 100, 0])) (cs2 := (3, 85)) acl_0 rfl rfl (fun _ _ => rfl) rfl rfl (by decide) (by decide +kernel) (by decide +kernel) (by decide +kernel) (by decide +kernel) (by decide) rfl ⟨by decide, by decide⟩ dX11_init_21 (fun s3 => ?_)
  refine z_putR (fs := [some (some 101), some (some 102), some none, some none, some none, none, none, none, none, some none, some none, some none, some none, some none, some none, some none, some none, some none, some none, none, none, some none, some none, some none, some none, some none, some none, some none, some none, some none, some none, none, none, none, some none, none, none, some none, none, some none, some none, some none, none, some none, some none, some none, some none, some none, none]) (Z2 := (ZC 104 [100, 0])) hin fpr_RX11_16 (by decide +kernel) (by decide) (by decide +kernel) (by decide +kernel) dX11_init_23 ?_
  refine z_aload_n dX11_init_26 rfl rfl ?_
  refine z_iconst dX11_init_27 (inr_d rfl) ?_
  refine z_newa (kd := 0) (N := 2) (Z2 := (ZC 105 [104, 100, 0])) (cs2 := (4, 87)) acl_0 rfl rfl (fun _ _ => rfl) rfl rfl (by decide) (by decide +kernel) (by decide +kernel) (by decide +kernel) (by decide +kernel) (by decide) rfl ⟨by decide, by decide⟩ dX11_init_28 (fun s4 => ?_)
  refine z_putR (fs := [some (some 101), some (some 102), some (some 103), some none, some none, none, none, none, none, some none, some none, some none, some none, some none, some none, some none, some none, some none, some none, none, none, some none, some none, some none, some none, some none, some none, some none, some none, some none, some none, none, none, none, some none, none, none, some none, none, some none, some none, some none, none, some none, some none, some none, some none, some none, none]) (Z2 := (ZC 105 [100, 0])) hin fpr_RX11_19 (by decide +kernel) (by decide) (by decide +kernel) (by decide +kernel) dX11_init_30 ?_
  refine z_aload_n dX11_init_33 rfl rfl ?_
  refine z_iconst dX11_init_34 (inr_d rfl) ?_
  refine z_newa (kd := 0) (N := 3) (Z2 := (ZC 106 [105, 100, 0])) (cs2 := (5, 90)) acl_0 rfl rfl (fun _ _ => rfl) rfl rfl (by decide) (by decide +kernel) (by decide +kernel) (by decide +kernel) (by decide +kernel) (by decide) rfl ⟨by decide, by decide⟩ dX11_init_35 (fun s5 => ?_)
  refine z_putR (fs := [some (some 101), some (some 102), some (some 103), some (some 104), some none, none, none, none, none, some none, some none, some none, some none, some none, some none, some none, some none, some none, some none, none, none, some none, some none, some none, some none, some none, some none, some none, some none, some none, some none, none, none, none, some none, none, none, some none, none, some none, some none, some none, none, some none, some none, some none, some none, some none, none]) (Z2 := (ZC 106 [100, 0])) hin fpr_RX11_22 (by decide +kernel) (by decide) (by decide +kernel) (by decide +kernel) dX11_init_37 ?_
  refine z_aload_n dX11_init_40 rfl rfl ?_
  refine z_bipush (v := 6) dX11_init_41 (by decide +kernel) (inr_d rfl) ?_
  refine z_putI (fs := [some (some 101), some (some 102), some (some 103), some (some 104), some (some 105), none, none, none, none, some none, some none, some none, some none, some none, some none, some none, some none, some none, some none, none, none, some none, some none, some none, some none, some none, some none, some none, some none, some none, some none, none, none, none, some none, none, none, some none, none, some none, some none, some none, none, some none, some none, some none, some none, some none, none]) fp_RX11_25 (by decide +kernel) rfl dX11_init_43 (fun s6 => ?_)
  refine z_aload_n dX11_init_46 rfl rfl ?_
  refine z_bipush (v := 6) dX11_init_47 (by decide +kernel) (inr_d rfl) ?_
  refine z_putI (fs := [some (some 101), some (some 102), some (some 103), some (some 104), some (some 105), none, none, none, none, some none, some none, some none, some none, some none, some none, some none, some none, some none, some none, none, none, some none, some none, some none, some none, some none, some none, some none, some none, some none, some none, none, none, none, some none, none, none, some none, none, some none, some none, some none, none, some none, some none, some none, some none, some none, none]) fp_RX11_29 (by decide +kernel) rfl dX11_init_49 (fun s7 => ?_)
  refine z_aload_n dX11_init_52 rfl rfl ?_
  refine z_iconst dX11_init_53 (inr_d rfl) ?_
  refine z_putI (fs := [some (some 101), some (some 102), some (some 103), some (some 104), some (some 105), none, none, none, none, some none, some none, some none, some none, some none, some none, some none, some none, some none, some none, none, none, some none, some none, some none, some none, some none, some none, some none, some none, some none, some none, none, none, none, some none, none, none, some none, none, some none, some none, some none, none, some none, some none, some none, some none, some none, none]) fp_RX11_32 (by decide +kernel) rfl dX11_init_54 (fun s8 => ?_)
  refine z_aload_n dX11_init_57 rfl rfl ?_
  refine z_iconst dX11_init_58 (inr_d rfl) ?_
  refine z_newa (kd := 0) (N := 4) (Z2 := (ZC 107 [106, 100, 0])) (cs2 := (6, 94)) acl_0 rfl rfl (fun _ _ => rfl) rfl rfl (by decide) (by decide +kernel) (by decide +kernel) (by decide +kernel) (by decide +kernel) (by decide) rfl ⟨by decide, by decide⟩ dX11_init_59 (fun s9 => ?_)
  refine z_putR (fs := [some (some 101), some (some 102), some (some 103), some (some 104), some (some 105), none, none, none, none, some none, some none, some none, some none, some none, some none, some none, some none, some none, some none, none, none, some none, some none, some none, some none, some none, some none, some none, some none, some none, some none, none, none, none, some none, none, none, some none, none, some none, some none, some none, none, some none, some none, some none, some none, some none, none]) (Z2 := (ZC 107 [100, 0])) hin fpr_RX11_35 (by decide +kernel) (by decide) (by decide +kernel) (by decide +kernel) dX11_init_61 ?_
  refine z_aload_n dX11_init_64 rfl rfl ?_
  refine z_iconst dX11_init_65 (inr_d rfl) ?_
  refine z_newa (kd := 0) (N := 4) (Z2 := (ZC 108 [107, 100, 0])) (cs2 := (7, 98)) acl_0 rfl rfl (fun _ _ => rfl) rfl rfl (by decide) (by decide +kernel) (by decide +kernel) (by decide +kernel) (by decide +kernel) (by decide) rfl ⟨by decide, by decide⟩ dX11_init_66 (fun s10 => ?_)
  refine z_putR (fs := [some (some 101), some (some 102), some (some 103), some (some 104), some (some 105), none, none, none, none, some (some 106), some none, some none, some none, some none, some none, some none, some none, some none, some none, none, none, some none, some none, some none, some none, some none, some none, some none, some none, some none, some none, none, none, none, some none, none, none, some none, none, some none, some none, some none, none, some none, some none, some none, some none, some none, none]) (Z2 := (ZC 108 [100, 0])) hin fpr_RX11_38 (by decide +kernel) (by decide) (by decide +kernel) (by decide +kernel) dX11_init_68 ?_
  refine z_aload_n dX11_init_71 rfl rfl ?_
  refine z_bipush (v := 64) dX11_init_72 (by decide +kernel) (inr_d rfl) ?_
  refine z_newa (kd := 0) (N := 64) (Z2 := (ZC 109 [108, 100, 0])) (cs2 := (8, 162)) acl_0 rfl rfl (fun _ _ => rfl) rfl rfl (by decide) (by decide +kernel) (by decide +kernel) (by decide +kernel) (by decide +kernel) (by decide) rfl ⟨by decide, by decide⟩ dX11_init_74 (fun s11 => ?_)
  refine z_putR (fs := [some (some 101), some (some 102), some (some 103), some (some 104), some (some 105), none, none, none, none, some (some 106), some (some 107), some none, some none, some none, some none, some none, some none, some none, some none, none, none, some none, some none, some none, some none, some none, some none, some none, some none, some none, some none, none, none, none, some none, none, none, some none, none, some none, some none, some none, none, some none, some none, some none, some none, some none, none]) (Z2 := (ZC 109 [100, 0])) hin fpr_RX11_41 (by decide +kernel) (by decide) (by decide +kernel) (by decide +kernel) dX11_init_76 ?_
  refine z_aload_n dX11_init_79 rfl rfl ?_
  refine z_sipush (v := 192) dX11_init_80 (by decide +kernel) (inr_d rfl) ?_
  refine z_newa (kd := 0) (N := 192) (Z2 := (ZC 110 [109, 100, 0])) (cs2 := (9, 354)) acl_0 rfl rfl (fun _ _ => rfl) rfl rfl (by decide) (by decide +kernel) (by decide +kernel) (by decide +kernel) (by decide +kernel) (by decide) rfl ⟨by decide, by decide⟩ dX11_init_83 (fun s12 => ?_)
  refine z_putR (fs := [some (some 101), some (some 102), some (some 103), some (some 104), some (some 105), none, none, none, none, some (some 106), some (some 107), some (some 108), some none, some none, some none, some none, some none, some none, some none, none, none, some none, some none, some none, some none, some none, some none, some none, some none, some none, some none, none, none, none, some none, none, none, some none, none, some none, some none, some none, none, some none, some none, some none, some none, some none, none]) (Z2 := (ZC 110 [100, 0])) hin fpr_RX11_44 (by decide +kernel) (by decide) (by decide +kernel) (by decide +kernel) dX11_init_85 ?_
  refine z_aload_n dX11_init_88 rfl rfl ?_
  refine z_bipush (v := 64) dX11_init_89 (by decide +kernel) (inr_d rfl) ?_
  refine z_newa (kd := 0) (N := 64) (Z2 := (ZC 111 [110, 100, 0])) (cs2 := (10, 418)) acl_0 rfl rfl (fun _ _ => rfl) rfl rfl (by decide) (by decide +kernel) (by decide +kernel) (by decide +kernel) (by decide +kernel) (by decide) rfl ⟨by decide, by decide⟩ dX11_init_91 (fun s13 => ?_)
  refine z_putR (fs := [some (some 101), some (some 102), some (some 103), some (some 104), some (some 105), none, none, none, none, some (some 106), some (some 107), some (some 108), some (some 109), some none, some none, some none, some none, some none, some none, none, none, some none, some none, some none, some none, some none, some none, some none, some none, some none, some none, none, none, none, some none, none, none, some none, none, some none, some none, some none, none, some none, some none, some none, some none, some none, none]) (Z2 := (ZC 111 [100, 0])) hin fpr_RX11_47 (by decide +kernel) (by decide) (by decide +kernel) (by decide +kernel) dX11_init_93 ?_
  refine z_aload_n dX11_init_96 rfl rfl ?_
  refine z_sipush (v := 192) dX11_init_97 (by decide +kernel) (inr_d rfl) ?_
  refine z_newa (kd := 0) (N := 192) (Z2 := (ZC 112 [111, 100, 0])) (cs2 := (11, 610)) acl_0 rfl rfl (fun _ _ => rfl) rfl rfl (by decide) (by decide +kernel) (by decide +kernel) (by decide +kernel) (by decide +kernel) (by decide) rfl ⟨by decide, by decide⟩ dX11_init_100 (fun s14 => ?_)
  refine z_putR (fs := [some (some 101), some (some 102), some (some 103), some (some 104), some (some 105), none, none, none, none, some (some 106), some (some 107), some (some 108), some (some 109), some (some 110), some none, some none, some none, some none, some none, none, none, some none, some none, some none, some none, some none, some none, some none, some none, some none, some none, none, none, none, some none, none, none, some none, none, some none, some none, some none, none, some none, some none, some none, some none, some none, none]) (Z2 := (ZC 112 [100, 0])) hin fpr_RX11_50 (by decide +kernel) (by decide) (by decide +kernel) (by decide +kernel) dX11_init_102 ?_
  refine z_aload_n dX11_init_105 rfl rfl ?_
  refine z_bipush (v := 64) dX11_init_106 (by decide +kernel) (inr_d rfl) ?_
  refine z_newa (kd := 0) (N := 64) (Z2 := (ZC 113 [112, 100, 0])) (cs2 := (12, 674)) acl_0 rfl rfl (fun _ _ => rfl) rfl rfl (by decide) (by decide +kernel) (by decide +kernel) (by decide +kernel) (by decide +kernel) (by decide) rfl ⟨by decide, by decide⟩ dX11_init_108 (fun s15 => ?_)
  refine z_putR (fs := [some (some 101), some (some 102), some (some 103), some (some 104), some (some 105), none, none, none, none, some (some 106), some (some 107), some (some 108), some (some 109), some (some 110), some (some 111), some none, some none, some none, some none, none, none, some none, some none, some none, some none, some none, some none, some none, some none, some none, some none, none, none, none, some none, none, none, some none, none, some none, some none, some none, none, some none, some none, some none, some none, some none, none]) (Z2 := (ZC 113 [100, 0])) hin fpr_RX11_53 (by decide +kernel) (by decide) (by decide +kernel) (by decide +kernel) dX11_init_110 ?_
  refine z_aload_n dX11_init_113 rfl rfl ?_
  refine z_sipush (v := 256) dX11_init_114 (by decide +kernel) (inr_d rfl) ?_
  refine z_newa (kd := 0) (N := 256) (Z2 := (ZC 114 [113, 100, 0])) (cs2 := (13, 930)) acl_0 rfl rfl (fun _ _ => rfl) rfl rfl (by decide) (by decide +kernel) (by decide +kernel) (by decide +kernel) (by decide +kernel) (by decide) rfl ⟨by decide, by decide⟩ dX11_init_117 (fun s16 => ?_)
  refine z_putR (fs := [some (some 101), some (some 102), some (some 103), some (some 104), some (some 105), none, none, none, none, some (some 106), some (some 107), some (some 108), some (some 109), some (some 110), some (some 111), some (some 112), some none, some none, some none, none, none, some none, some none, some none, some none, some none, some none, some none, some none, some none, some none, none, none, none, some none, none, none, some none, none, some none, some none, some none, none, some none, some none, some none, some none, some none, none]) (Z2 := (ZC 114 [100, 0])) hin fpr_RX11_56 (by decide +kernel) (by decide) (by decide +kernel) (by decide +kernel) dX11_init_119 ?_
  refine z_aload_n dX11_init_122 rfl rfl ?_
  refine z_sipush (v := 256) dX11_init_123 (by decide +kernel) (inr_d rfl) ?_
  refine z_newa (kd := 0) (N := 256) (Z2 := (ZC 115 [114, 100, 0])) (cs2 := (14, 1186)) acl_0 rfl rfl (fun _ _ => rfl) rfl rfl (by decide) (by decide +kernel) (by decide +kernel) (by decide +kernel) (by decide +kernel) (by decide) rfl ⟨by decide, by decide⟩ dX11_init_126 (fun s17 => ?_)
  refine z_putR (fs := [some (some 101), some (some 102), some (some 103), some (some 104), some (some 105), none, none, none, none, some (some 106), some (some 107), some (some 108), some (some 109), some (some 110), some (some 111), some (some 112), some (some 113), some none, some none, none, none, some none, some none, some none, some none, some none, some none, some none, some none, some none, some none, none, none, none, some none, none, none, some none, none, some none, some none, some none, none, some none, some none, some none, some none, some none, none]) (Z2 := (ZC 115 [100, 0])) hin fpr_RX11_59 (by decide +kernel) (by decide) (by decide +kernel) (by decide +kernel) dX11_init_128 ?_
  refine z_aload_n dX11_init_131 rfl rfl ?_
  refine z_sipush (v := 256) dX11_init_132 (by decide +kernel) (inr_d rfl) ?_
  refine z_newa (kd := 0) (N := 256) (Z2 := (ZC 116 [115, 100, 0])) (cs2 := (15, 1442)) acl_0 rfl rfl (fun _ _ => rfl) rfl rfl (by decide) (by decide +kernel) (by decide +kernel) (by decide +kernel) (by decide +kernel) (by decide) rfl ⟨by decide, by decide⟩ dX11_init_135 (fun s18 => ?_)
  refine z_putR (fs := [some (some 101), some (some 102), some (some 103), some (some 104), some (some 105), none, none, none, none, some (some 106), some (some 107), some (some 108), some (some 109), some (some 110), some (some 111), some (some 112), some (some 113), some (some 114), some none, none, none, some none, some none, some none, some none, some none, some none, some none, some none, some none, some none, none, none, none, some none, none, none, some none, none, some none, some none, some none, none, some none, some none, some none, some none, some none, none]) (Z2 := (ZC 116 [100, 0])) hin fpr_RX11_62 (by decide +kernel) (by decide) (by decide +kernel) (by decide +kernel) dX11_init_137 ?_
  refine z_aload_n dX11_init_140 rfl rfl ?_
  refine z_sipush (v := 400) dX11_init_141 (by decide +kernel) (inr_d rfl) ?_
  refine z_newa (kd := 0) (N := 400) (Z2 := (ZC 117 [116, 100, 0])) (cs2 := (16, 1842)) acl_0 rfl rfl (fun _ _ => rfl) rfl rfl (by decide) (by decide +kernel) (by decide +kernel) (by decide +kernel) (by decide +kernel) (by decide) rfl ⟨by decide, by decide⟩ dX11_init_144 (fun s19 => ?_)
  refine z_putR (fs := [some (some 101), some (some 102), some (some 103), some (some 104), some (some 105), none, none, none, none, some (some 106), some (some 107), some (some 108), some (some 109), some (some 110), some (some 111), some (some 112), some (some 113), some (some 114), some (some 115), none, none, some none, some none, some none, some none, some none, some none, some none, some none, some none, some none, none, none, none, some none, none, none, some none, none, some none, some none, some none, none, some none, some none, some none, some none, some none, none]) (Z2 := (ZC 117 [100, 0])) hin fpr_RX11_65 (by decide +kernel) (by decide) (by decide +kernel) (by decide +kernel) dX11_init_146 ?_
  refine z_aload_n dX11_init_149 rfl rfl ?_
  refine z_sipush (v := 144) dX11_init_150 (by decide +kernel) (inr_d rfl) ?_
  refine z_newa (kd := 0) (N := 144) (Z2 := (ZC 118 [117, 100, 0])) (cs2 := (17, 1986)) acl_0 rfl rfl (fun _ _ => rfl) rfl rfl (by decide) (by decide +kernel) (by decide +kernel) (by decide +kernel) (by decide +kernel) (by decide) rfl ⟨by decide, by decide⟩ dX11_init_153 (fun s20 => ?_)
  refine z_putR (fs := [some (some 101), some (some 102), some (some 103), some (some 104), some (some 105), none, none, none, none, some (some 106), some (some 107), some (some 108), some (some 109), some (some 110), some (some 111), some (some 112), some (some 113), some (some 114), some (some 115), none, none, some (some 116), some none, some none, some none, some none, some none, some none, some none, some none, some none, none, none, none, some none, none, none, some none, none, some none, some none, some none, none, some none, some none, some none, some none, some none, none]) (Z2 := (ZC 118 [100, 0])) hin fpr_RX11_68 (by decide +kernel) (by decide) (by decide +kernel) (by decide +kernel) dX11_init_155 ?_
  refine z_aload_n dX11_init_158 rfl rfl ?_
  refine z_sipush (v := 144) dX11_init_159 (by decide +kernel) (inr_d rfl) ?_
  refine z_newa (kd := 0) (N := 144) (Z2 := (ZC 119 [118, 100, 0])) (cs2 := (18, 2130)) acl_0 rfl rfl (fun _ _ => rfl) rfl rfl (by decide) (by decide +kernel) (by decide +kernel) (by decide +kernel) (by decide +kernel) (by decide) rfl ⟨by decide, by decide⟩ dX11_init_162 (fun s21 => ?_)
  refine z_putR (fs := [some (some 101), some (some 102), some (some 103), some (some 104), some (some 105), none, none, none, none, some (some 106), some (some 107), some (some 108), some (some 109), some (some 110), some (some 111), some (some 112), some (some 113), some (some 114), some (some 115), none, none, some (some 116), some (some 117), some none, some none, some none, some none, some none, some none, some none, some none, none, none, none, some none, none, none, some none, none, some none, some none, some none, none, some none, some none, some none, some none, some none, none]) (Z2 := (ZC 119 [100, 0])) hin fpr_RX11_71 (by decide +kernel) (by decide) (by decide +kernel) (by decide +kernel) dX11_init_164 ?_
  refine z_aload_n dX11_init_167 rfl rfl ?_
  refine z_bipush (v := 48) dX11_init_168 (by decide +kernel) (inr_d rfl) ?_
  refine z_newa (kd := 0) (N := 48) (Z2 := (ZC 120 [119, 100, 0])) (cs2 := (19, 2178)) acl_0 rfl rfl (fun _ _ => rfl) rfl rfl (by decide) (by decide +kernel) (by decide +kernel) (by decide +kernel) (by decide +kernel) (by decide) rfl ⟨by decide, by decide⟩ dX11_init_170 (fun s22 => ?_)
  refine z_putR (fs := [some (some 101), some (some 102), some (some 103), some (some 104), some (some 105), none, none, none, none, some (some 106), some (some 107), some (some 108), some (some 109), some (some 110), some (some 111), some (some 112), some (some 113), some (some 114), some (some 115), none, none, some (some 116), some (some 117), some (some 118), some none, some none, some none, some none, some none, some none, some none, none, none, none, some none, none, none, some none, none, some none, some none, some none, none, some none, some none, some none, some none, some none, none]) (Z2 := (ZC 120 [100, 0])) hin fpr_RX11_74 (by decide +kernel) (by decide) (by decide +kernel) (by decide +kernel) dX11_init_172 ?_
  refine z_aload_n dX11_init_175 rfl rfl ?_
  refine z_bipush (v := 48) dX11_init_176 (by decide +kernel) (inr_d rfl) ?_
  refine z_newa (kd := 0) (N := 48) (Z2 := (ZC 121 [120, 100, 0])) (cs2 := (20, 2226)) acl_0 rfl rfl (fun _ _ => rfl) rfl rfl (by decide) (by decide +kernel) (by decide +kernel) (by decide +kernel) (by decide +kernel) (by decide) rfl ⟨by decide, by decide⟩ dX11_init_178 (fun s23 => ?_)
  refine z_putR (fs := [some (some 101), some (some 102), some (some 103), some (some 104), some (some 105), none, none, none, none, some (some 106), some (some 107), some (some 108), some (some 109), some (some 110), some (some 111), some (some 112), some (some 113), some (some 114), some (some 115), none, none, some (some 116), some (some 117), some (some 118), some (some 119), some none, some none, some none, some none, some none, some none, none, none, none, some none, none, none, some none, none, some none, some none, some none, none, some none, some none, some none, some none, some none, none]) (Z2 := (ZC 121 [100, 0])) hin fpr_RX11_77 (by decide +kernel) (by decide) (by decide +kernel) (by decide +kernel) dX11_init_180 ?_
  refine z_aload_n dX11_init_183 rfl rfl ?_
  refine z_bipush (v := 24) dX11_init_184 (by decide +kernel) (inr_d rfl) ?_
  refine z_newa (kd := 0) (N := 24) (Z2 := (ZC 122 [121, 100, 0])) (cs2 := (21, 2250)) acl_0 rfl rfl (fun _ _ => rfl) rfl rfl (by decide) (by decide +kernel) (by decide +kernel) (by decide +kernel) (by decide +kernel) (by decide) rfl ⟨by decide, by decide⟩ dX11_init_186 (fun s24 => ?_)
  refine z_putR (fs := [some (some 101), some (some 102), some (some 103), some (some 104), some (some 105), none, none, none, none, some (some 106), some (some 107), some (some 108), some (some 109), some (some 110), some (some 111), some (some 112), some (some 113), some (some 114), some (some 115), none, none, some (some 116), some (some 117), some (some 118), some (some 119), some (some 120), some none, some none, some none, some none, some none, none, none, none, some none, none, none, some none, none, some none, some none, some none, none, some none, some none, some none, some none, some none, none]) (Z2 := (ZC 122 [100, 0])) hin fpr_RX11_80 (by decide +kernel) (by decide) (by decide +kernel) (by decide +kernel) dX11_init_188 ?_
  refine z_aload_n dX11_init_191 rfl rfl ?_
  refine z_bipush (v := 24) dX11_init_192 (by decide +kernel) (inr_d rfl) ?_
  refine z_newa (kd := 0) (N := 24) (Z2 := (ZC 123 [122, 100, 0])) (cs2 := (22, 2274)) acl_0 rfl rfl (fun _ _ => rfl) rfl rfl (by decide) (by decide +kernel) (by decide +kernel) (by decide +kernel) (by decide +kernel) (by decide) rfl ⟨by decide, by decide⟩ dX11_init_194 (fun s25 => ?_)
  refine z_putR (fs := [some (some 101), some (some 102), some (some 103), some (some 104), some (some 105), none, none, none, none, some (some 106), some (some 107), some (some 108), some (some 109), some (some 110), some (some 111), some (some 112), some (some 113), some (some 114), some (some 115), none, none, some (some 116), some (some 117), some (some 118), some (some 119), some (some 120), some (some 121), some none, some none, some none, some none, none, none, none, some none, none, none, some none, none, some none, some none, some none, none, some none, some none, some none, some none, some none, none]) (Z2 := (ZC 123 [100, 0])) hin fpr_RX11_83 (by decide +kernel) (by decide) (by decide +kernel) (by decide +kernel) dX11_init_196 ?_
  refine z_aload_n dX11_init_199 rfl rfl ?_
  refine z_bipush (v := 24) dX11_init_200 (by decide +kernel) (inr_d rfl) ?_
  refine z_newa (kd := 0) (N := 24) (Z2 := (ZC 124 [123, 100, 0])) (cs2 := (23, 2298)) acl_0 rfl rfl (fun _ _ => rfl) rfl rfl (by decide) (by decide +kernel) (by decide +kernel) (by decide +kernel) (by decide +kernel) (by decide) rfl ⟨by decide, by decide⟩ dX11_init_202 (fun s26 => ?_)
  refine z_putR (fs := [some (some 101), some (some 102), some (some 103), some (some 104), some (some 105), none, none, none, none, some (some 106), some (some 107), some (some 108), some (some 109), some (some 110), some (some 111), some (some 112), some (some 113), some (some 114), some (some 115), none, none, some (some 116), some (some 117), some (some 118), some (some 119), some (some 120), some (some 121), some (some 122), some none, some none, some none, none, none, none, some none, none, none, some none, none, some none, some none, some none, none, some none, some none, some none, some none, some none, none]) (Z2 := (ZC 124 [100, 0])) hin fpr_RX11_86 (by decide +kernel) (by decide) (by decide +kernel) (by decide +kernel) dX11_init_204 ?_
  refine z_aload_n dX11_init_207 rfl rfl ?_
  refine z_bipush (v := 48) dX11_init_208 (by decide +kernel) (inr_d rfl) ?_
  refine z_newa (kd := 0) (N := 48) (Z2 := (ZC 125 [124, 100, 0])) (cs2 := (24, 2346)) acl_0 rfl rfl (fun _ _ => rfl) rfl rfl (by decide) (by decide +kernel) (by decide +kernel) (by decide +kernel) (by decide +kernel) (by decide) rfl ⟨by decide, by decide⟩ dX11_init_210 (fun s27 => ?_)
  refine z_putR (fs := [some (some 101), some (some 102), some (some 103), some (some 104), some (some 105), none, none, none, none, some (some 106), some (some 107), some (some 108), some (some 109), some (some 110), some (some 111), some (some 112), some (some 113), some (some 114), some (some 115), none, none, some (some 116), some (some 117), some (some 118), some (some 119), some (some 120), some (some 121), some (some 122), some (some 123), some none, some none, none, none, none, some none, none, none, some none, none, some none, some none, some none, none, some none, some none, some none, some none, some none, none]) (Z2 := (ZC 125 [100, 0])) hin fpr_RX11_89 (by decide +kernel) (by decide) (by decide +kernel) (by decide +kernel) dX11_init_212 ?_
  refine z_aload_n dX11_init_215 rfl rfl ?_
  refine z_iconst dX11_init_216 (inr_d rfl) ?_
  refine z_newa (kd := 0) (N := 2) (Z2 := (ZC 126 [125, 100, 0])) (cs2 := (25, 2348)) acl_0 rfl rfl (fun _ _ => rfl) rfl rfl (by decide) (by decide +kernel) (by decide +kernel) (by decide +kernel) (by decide +kernel) (by decide) rfl ⟨by decide, by decide⟩ dX11_init_217 (fun s28 => ?_)
  refine z_putR (fs := [some (some 101), some (some 102), some (some 103), some (some 104), some (some 105), none, none, none, none, some (some 106), some (some 107), some (some 108), some (some 109), some (some 110), some (some 111), some (some 112), some (some 113), some (some 114), some (some 115), none, none, some (some 116), some (some 117), some (some 118), some (some 119), some (some 120), some (some 121), some (some 122), some (some 123), some (some 124), some none, none, none, none, some none, none, none, some none, none, some none, some none, some none, none, some none, some none, some none, some none, some none, none]) (Z2 := (ZC 126 [100, 0])) hin fpr_RX11_92 (by decide +kernel) (by decide) (by decide +kernel) (by decide +kernel) dX11_init_219 ?_
  refine z_aload_n dX11_init_222 rfl rfl ?_
  refine z_iconst dX11_init_223 (inr_d rfl) ?_
  refine z_newa (kd := 0) (N := 5) (Z2 := (ZC 127 [126, 100, 0])) (cs2 := (26, 2353)) acl_0 rfl rfl (fun _ _ => rfl) rfl rfl (by decide) (by decide +kernel) (by decide +kernel) (by decide +kernel) (by decide +kernel) (by decide) rfl ⟨by decide, by decide⟩ dX11_init_224 (fun s29 => ?_)
  refine z_putR (fs := [some (some 101), some (some 102), some (some 103), some (some 104), some (some 105), none, none, none, none, some (some 106), some (some 107), some (some 108), some (some 109), some (some 110), some (some 111), some (some 112), some (some 113), some (some 114), some (some 115), none, none, some (some 116), some (some 117), some (some 118), some (some 119), some (some 120), some (some 121), some (some 122), some (some 123), some (some 124), some (some 125), none, none, none, some none, none, none, some none, none, some none, some none, some none, none, some none, some none, some none, some none, some none, none]) (Z2 := (ZC 127 [100, 0])) hin fpr_RX11_95 (by decide +kernel) (by decide) (by decide +kernel) (by decide +kernel) dX11_init_226 ?_
  refine z_aload_n dX11_init_229 rfl rfl ?_
  refine z_sipush (v := 816) dX11_init_230 (by decide +kernel) (inr_d rfl) ?_
  refine z_newa (kd := 0) (N := 816) (Z2 := (ZC 128 [127, 100, 0])) (cs2 := (27, 3169)) acl_0 rfl rfl (fun _ _ => rfl) rfl rfl (by decide) (by decide +kernel) (by decide +kernel) (by decide +kernel) (by decide +kernel) (by decide) rfl ⟨by decide, by decide⟩ dX11_init_233 (fun s30 => ?_)
  refine z_putR (fs := [some (some 101), some (some 102), some (some 103), some (some 104), some (some 105), none, none, none, none, some (some 106), some (some 107), some (some 108), some (some 109), some (some 110), some (some 111), some (some 112), some (some 113), some (some 114), some (some 115), none, none, some (some 116), some (some 117), some (some 118), some (some 119), some (some 120), some (some 121), some (some 122), some (some 123), some (some 124), some (some 125), none, none, none, some (some 126), none, none, some none, none, some none, some none, some none, none, some none, some none, some none, some none, some none, none]) (Z2 := (ZC 128 [100, 0])) hin fpr_RX11_98 (by decide +kernel) (by decide) (by decide +kernel) (by decide +kernel) dX11_init_235 ?_
  refine z_aload_n dX11_init_238 rfl rfl ?_
  refine z_bipush (v := 20) dX11_init_239 (by decide +kernel) (inr_d rfl) ?_
  refine z_newa (kd := 0) (N := 20) (Z2 := (ZC 129 [128, 100, 0])) (cs2 := (28, 3189)) acl_0 rfl rfl (fun _ _ => rfl) rfl rfl (by decide) (by decide +kernel) (by decide +kernel) (by decide +kernel) (by decide +kernel) (by decide) rfl ⟨by decide, by decide⟩ dX11_init_241 (fun s31 => ?_)
  refine z_putR (fs := [some (some 101), some (some 102), some (some 103), some (some 104), some (some 105), none, none, none, none, some (some 106), some (some 107), some (some 108), some (some 109), some (some 110), some (some 111), some (some 112), some (some 113), some (some 114), some (some 115), none, none, some (some 116), some (some 117), some (some 118), some (some 119), some (some 120), some (some 121), some (some 122), some (some 123), some (some 124), some (some 125), none, none, none, some (some 126), none, none, some (some 127), none, some none, some none, some none, none, some none, some none, some none, some none, some none, none]) (Z2 := (ZC 129 [100, 0])) hin fpr_RX11_101 (by decide +kernel) (by decide) (by decide +kernel) (by decide +kernel) dX11_init_243 ?_
  refine z_aload_n dX11_init_246 rfl rfl ?_
  refine z_bipush (v := 20) dX11_init_247 (by decide +kernel) (inr_d rfl) ?_
  refine z_newa (kd := 0) (N := 20) (Z2 := (ZC 130 [129, 100, 0])) (cs2 := (29, 3209)) acl_0 rfl rfl (fun _ _ => rfl) rfl rfl (by decide) (by decide +kernel) (by decide +kernel) (by decide +kernel) (by decide +kernel) (by decide) rfl ⟨by decide, by decide⟩ dX11_init_249 (fun s32 => ?_)
  refine z_putR (fs := [some (some 101), some (some 102), some (some 103), some (some 104), some (some 105), none, none, none, none, some (some 106), some (some 107), some (some 108), some (some 109), some (some 110), some (some 111), some (some 112), some (some 113), some (some 114), some (some 115), none, none, some (some 116), some (some 117), some (some 118), some (some 119), some (some 120), some (some 121), some (some 122), some (some 123), some (some 124), some (some 125), none, none, none, some (some 126), none, none, some (some 127), none, some (some 128), some none, some none, none, some none, some none, some none, some none, some none, none]) (Z2 := (ZC 130 [100, 0])) hin fpr_RX11_104 (by decide +kernel) (by decide) (by decide +kernel) (by decide +kernel) dX11_init_251 ?_
  refine z_aload_n dX11_init_254 rfl rfl ?_
  refine z_bipush (v := 20) dX11_init_255 (by decide +kernel) (inr_d rfl) ?_
  refine z_newa (kd := 0) (N := 20) (Z2 := (ZC 131 [130, 100, 0])) (cs2 := (30, 3229)) acl_0 rfl rfl (fun _ _ => rfl) rfl rfl (by decide) (by decide +kernel) (by decide +kernel) (by decide +kernel) (by decide +kernel) (by decide) rfl ⟨by decide, by decide⟩ dX11_init_257 (fun s33 => ?_)
  refine z_putR (fs := [some (some 101), some (some 102), some (some 103), some (some 104), some (some 105), none, none, none, none, some (some 106), some (some 107), some (some 108), some (some 109), some (some 110), some (some 111), some (some 112), some (some 113), some (some 114), some (some 115), none, none, some (some 116), some (some 117), some (some 118), some (some 119), some (some 120), some (some 121), some (some 122), some (some 123), some (some 124), some (some 125), none, none, none, some (some 126), none, none, some (some 127), none, some (some 128), some (some 129), some none, none, some none, some none, some none, some none, some none, none]) (Z2 := (ZC 131 [100, 0])) hin fpr_RX11_107 (by decide +kernel) (by decide) (by decide +kernel) (by decide +kernel) dX11_init_259 ?_
  refine z_aload_n dX11_init_262 rfl rfl ?_
  refine z_bipush (v := 8) dX11_init_263 (by decide +kernel) (inr_d rfl) ?_
  refine z_newa (kd := 0) (N := 8) (Z2 := (ZC 132 [131, 100, 0])) (cs2 := (31, 3237)) acl_0 rfl rfl (fun _ _ => rfl) rfl rfl (by decide) (by decide +kernel) (by decide +kernel) (by decide +kernel) (by decide +kernel) (by decide) rfl ⟨by decide, by decide⟩ dX11_init_265 (fun s34 => ?_)
  refine z_putR (fs := [some (some 101), some (some 102), some (some 103), some (some 104), some (some 105), none, none, none, none, some (some 106), some (some 107), some (some 108), some (some 109), some (some 110), some (some 111), some (some 112), some (some 113), some (some 114), some (some 115), none, none, some (some 116), some (some 117), some (some 118), some (some 119), some (some 120), some (some 121), some (some 122), some (some 123), some (some 124), some (some 125), none, none, none, some (some 126), none, none, some (some 127), none, some (some 128), some (some 129), some (some 130), none, some none, some none, some none, some none, some none, none]) (Z2 := (ZC 132 [100, 0])) hin fpr_RX11_110 (by decide +kernel) (by decide) (by decide +kernel) (by decide +kernel) dX11_init_267 ?_
  refine z_aload_n dX11_init_270 rfl rfl ?_
  refine z_bipush (v := 8) dX11_init_271 (by decide +kernel) (inr_d rfl) ?_
  refine z_newa (kd := 0) (N := 8) (Z2 := (ZC 133 [132, 100, 0])) (cs2 := (32, 3245)) acl_0 rfl rfl (fun _ _ => rfl) rfl rfl (by decide) (by decide +kernel) (by decide +kernel) (by decide +kernel) (by decide +kernel) (by decide) rfl ⟨by decide, by decide⟩ dX11_init_273 (fun s35 => ?_)
  refine z_putR (fs := [some (some 101), some (some 102), some (some 103), some (some 104), some (some 105), none, none, none, none, some (some 106), some (some 107), some (some 108), some (some 109), some (some 110), some (some 111), some (some 112), some (some 113), some (some 114), some (some 115), none, none, some (some 116), some (some 117), some (some 118), some (some 119), some (some 120), some (some 121), some (some 122), some (some 123), some (some 124), some (some 125), none, none, none, some (some 126), none, none, some (some 127), none, some (some 128), some (some 129), some (some 130), none, some (some 131), some none, some none, some none, some none, none]) (Z2 := (ZC 133 [100, 0])) hin fpr_RX11_113 (by decide +kernel) (by decide) (by decide +kernel) (by decide +kernel) dX11_init_275 ?_
  refine z_aload_n dX11_init_278 rfl rfl ?_
  refine z_bipush (v := 8) dX11_init_279 (by decide +kernel) (inr_d rfl) ?_
  refine z_newa (kd := 0) (N := 8) (Z2 := (ZC 134 [133, 100, 0])) (cs2 := (33, 3253)) acl_0 rfl rfl (fun _ _ => rfl) rfl rfl (by decide) (by decide +kernel) (by decide +kernel) (by decide +kernel) (by decide +kernel) (by decide) rfl ⟨by decide, by decide⟩ dX11_init_281 (fun s36 => ?_)
  refine z_putR (fs := [some (some 101), some (some 102), some (some 103), some (some 104), some (some 105), none, none, none, none, some (some 106), some (some 107), some (some 108), some (some 109), some (some 110), some (some 111), some (some 112), some (some 113), some (some 114), some (some 115), none, none, some (some 116), some (some 117), some (some 118), some (some 119), some (some 120), some (some 121), some (some 122), some (some 123), some (some 124), some (some 125), none, none, none, some (some 126), none, none, some (some 127), none, some (some 128), some (some 129), some (some 130), none, some (some 131), some (some 132), some none, some none, some none, none]) (Z2 := (ZC 134 [100, 0])) hin fpr_RX11_116 (by decide +kernel) (by decide) (by decide +kernel) (by decide +kernel) dX11_init_283 ?_
  refine z_aload_n dX11_init_286 rfl rfl ?_
  refine z_bipush (v := 8) dX11_init_287 (by decide +kernel) (inr_d rfl) ?_
  refine z_newa (kd := 0) (N := 8) (Z2 := (ZC 135 [134, 100, 0])) (cs2 := (34, 3261)) acl_0 rfl rfl (fun _ _ => rfl) rfl rfl (by decide) (by decide +kernel) (by decide +kernel) (by decide +kernel) (by decide +kernel) (by decide) rfl ⟨by decide, by decide⟩ dX11_init_289 (fun s37 => ?_)
  refine z_putR (fs := [some (some 101), some (some 102), some (some 103), some (some 104), some (some 105), none, none, none, none, some (some 106), some (some 107), some (some 108), some (some 109), some (some 110), some (some 111), some (some 112), some (some 113), some (some 114), some (some 115), none, none, some (some 116), some (some 117), some (some 118), some (some 119), some (some 120), some (some 121), some (some 122), some (some 123), some (some 124), some (some 125), none, none, none, some (some 126), none, none, some (some 127), none, some (some 128), some (some 129), some (some 130), none, some (some 131), some (some 132), some (some 133), some none, some none, none]) (Z2 := (ZC 135 [100, 0])) hin fpr_RX11_119 (by decide +kernel) (by decide) (by decide +kernel) (by decide +kernel) dX11_init_291 ?_
  refine z_aload_n dX11_init_294 rfl rfl ?_
  refine z_sipush (v := 256) dX11_init_295 (by decide +kernel) (inr_d rfl) ?_
  refine z_newa (kd := 0) (N := 256) (Z2 := (ZC 136 [135, 100, 0])) (cs2 := (35, 3517)) acl_0 rfl rfl (fun _ _ => rfl) rfl rfl (by decide) (by decide +kernel) (by decide +kernel) (by decide +kernel) (by decide +kernel) (by decide) rfl ⟨by decide, by decide⟩ dX11_init_298 (fun s38 => ?_)
  refine z_putR (fs := [some (some 101), some (some 102), some (some 103), some (some 104), some (some 105), none, none, none, none, some (some 106), some (some 107), some (some 108), some (some 109), some (some 110), some (some 111), some (some 112), some (some 113), some (some 114), some (some 115), none, none, some (some 116), some (some 117), some (some 118), some (some 119), some (some 120), some (some 121), some (some 122), some (some 123), some (some 124), some (some 125), none, none, none, some (some 126), none, none, some (some 127), none, some (some 128), some (some 129), some (some 130), none, some (some 131), some (some 132), some (some 133), some (some 134), some none, none]) (Z2 := (ZC 136 [100, 0])) hin fpr_RX11_122 (by decide +kernel) (by decide) (by decide +kernel) (by decide +kernel) dX11_init_300 ?_
  refine z_iconst dX11_init_303 (inr_d rfl) ?_
  refine z_istore_n (ls2 := [some (.inr (.inr 100)), some (.inl 0)]) dX11_init_304 rfl (by decide) rfl rfl ?_
  refine z_msk [true, true] (jLX11_init_100_305 _ (fun s47 => ?_) _ _ _)
  refine z_iconst dX11_init_403 (inr_d rfl) ?_
  refine z_istore_n (ls2 := [some (.inr (.inr 100)), some (.inl 0)]) dX11_init_404 rfl (by decide) rfl rfl ?_
  refine z_msk [true, true] (jLX11_init_100_405 _ (fun s50 => ?_) _ _ _)
  refine z_iconst dX11_init_432 (inr_d rfl) ?_
  refine z_istore_n (ls2 := [some (.inr (.inr 100)), some (.inl 0)]) dX11_init_433 rfl (by decide) rfl rfl ?_
  refine z_msk [true, true] (jLX11_init_100_434 _ (fun s53 => ?_) _ _ _)
  refine z_iconst dX11_init_461 (inr_d rfl) ?_
  refine z_istore_n (ls2 := [some (.inr (.inr 100)), some (.inl 0)]) dX11_init_462 rfl (by decide) rfl rfl ?_
  refine z_msk [true, true] (jLX11_init_100_463 _ (fun s56 => ?_) _ _ _)
  exact z_vret hq dX11_init_490
