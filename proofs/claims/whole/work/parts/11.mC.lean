abbrev rmX2_edgeAt : Room := { frames := 1, cells := 0, slots := 0, locals := 22 }
theorem dX2_edgeAt_0 : decode cX2_edgeAt 0 = .ok (.aload_n 0, 1) := by decide +kernel
theorem dX2_edgeAt_1 : decode cX2_edgeAt 1 = .ok (.getfield 12, 3) := by decide +kernel
theorem dX2_edgeAt_4 : decode cX2_edgeAt 4 = .ok (.iload_n 1, 1) := by decide +kernel
theorem dX2_edgeAt_5 : decode cX2_edgeAt 5 = .ok (.invokevirtual 51, 3) := by decide +kernel
theorem dX2_edgeAt_8 : decode cX2_edgeAt 8 = .ok (.istore_n 2, 1) := by decide +kernel
theorem dX2_edgeAt_9 : decode cX2_edgeAt 9 = .ok (.aload_n 0, 1) := by decide +kernel
theorem dX2_edgeAt_10 : decode cX2_edgeAt 10 = .ok (.getfield 25, 3) := by decide +kernel
theorem dX2_edgeAt_13 : decode cX2_edgeAt 13 = .ok (.iload_n 2, 1) := by decide +kernel
theorem dX2_edgeAt_14 : decode cX2_edgeAt 14 = .ok (.iaload, 1) := by decide +kernel
theorem dX2_edgeAt_15 : decode cX2_edgeAt 15 = .ok (.iconst (-1), 1) := by decide +kernel
theorem dX2_edgeAt_16 : decode cX2_edgeAt 16 = .ok (.if_icmp .ne 8, 3) := by decide +kernel
theorem dX2_edgeAt_19 : decode cX2_edgeAt 19 = .ok (.bipush (-4), 2) := by decide +kernel
theorem dX2_edgeAt_21 : decode cX2_edgeAt 21 = .ok (.goto 21, 3) := by decide +kernel
theorem dX2_edgeAt_24 : decode cX2_edgeAt 24 = .ok (.aload_n 0, 1) := by decide +kernel
theorem dX2_edgeAt_25 : decode cX2_edgeAt 25 = .ok (.getfield 28, 3) := by decide +kernel
theorem dX2_edgeAt_28 : decode cX2_edgeAt 28 = .ok (.iload_n 2, 1) := by decide +kernel
theorem dX2_edgeAt_29 : decode cX2_edgeAt 29 = .ok (.iaload, 1) := by decide +kernel
theorem dX2_edgeAt_30 : decode cX2_edgeAt 30 = .ok (.iload_n 1, 1) := by decide +kernel
theorem dX2_edgeAt_31 : decode cX2_edgeAt 31 = .ok (.iadd, 1) := by decide +kernel
theorem dX2_edgeAt_32 : decode cX2_edgeAt 32 = .ok (.aload_n 0, 1) := by decide +kernel
theorem dX2_edgeAt_33 : decode cX2_edgeAt 33 = .ok (.getfield 12, 3) := by decide +kernel
theorem dX2_edgeAt_36 : decode cX2_edgeAt 36 = .ok (.getfield 55, 3) := by decide +kernel
theorem dX2_edgeAt_39 : decode cX2_edgeAt 39 = .ok (.iload_n 2, 1) := by decide +kernel
theorem dX2_edgeAt_40 : decode cX2_edgeAt 40 = .ok (.iaload, 1) := by decide +kernel
theorem dX2_edgeAt_41 : decode cX2_edgeAt 41 = .ok (.isub, 1) := by decide +kernel
theorem dX2_edgeAt_42 : decode cX2_edgeAt 42 = .ok (.ireturn, 1) := by decide +kernel
def fX2_edgeAt (t0 : Nat) (a1 : Int) (s0 : Mem) : Option Res :=
 bnd (fX6_shotAt (t0 + 1) a1 s0) (fun r1 s2 =>
 rd (s2 (t0 + 12)) r1 16 (fun v3 =>
 (if v3 ≠ (-1) then
 rd (s2 (t0 + 13)) r1 16 (fun v4 =>
 rd (s2 ((t0 + 1) + 1)) r1 17 (fun v5 =>
 some (wr ((wr (v4 + a1)) - v5), s2)))
 else
 some ((-4), s2))))
set_option maxRecDepth 100000 in
set_option maxHeartbeats 4000000 in
theorem mX2_edgeAt (l : Launch) (D : va_G) (ad : Nat → Nat) (cA : Nat → ClassId) (t0 : Nat) (h0 : isJo t0) (a1 : Int) (s0 : Mem) : MCi l D ad cA yX2_edgeAt cX2_edgeAt 3 (some .int) rmX2_edgeAt [.inr (.inr t0), .inl a1] s0 (fX2_edgeAt t0 a1 s0) := by
  refine MCi_ofE (own := RX2) (ls := [some (.inr (.inr t0)), some (.inl a1), none]) 1 (by decide +kernel) rfl rfl (fun _ => Nat.le_of_ble_eq_true rfl) (fun K hq => ?_)
  unfold fX2_edgeAt
  refine j_aload_n dX2_edgeAt_0 rfl rfl ?_
  refine j_getR fl_RX2_12 (jo_o h0) rfl dX2_edgeAt_1 ?_
  refine j_iload_n dX2_edgeAt_4 rfl rfl ?_
  refine j_callVi (mX6_shotAt (kl K) (kD K) (kad K) (kcA K) (t0 + 1) (jo_0 h0) a1 s0) cw_RX2_51 (sc_o (jo_0 h0)) rfl ⟨rfl, rfl, by decide, by decide⟩ rfl rfl (Nat.le_of_ble_eq_true rfl) dX2_edgeAt_5 (fun r1 s2 => ?_)
  refine j_istore_nE (ls2 := [some (.inr (.inr t0)), some (.inl a1), some (.inl r1)]) dX2_edgeAt_8 rfl (by decide) rfl rfl ?_
  refine j_aload_n dX2_edgeAt_9 rfl rfl ?_
  refine j_getR fl_RX2_25 (jo_o h0) rfl dX2_edgeAt_10 ?_
  refine j_iload_n dX2_edgeAt_13 rfl rfl ?_
  refine j_iald (jo_3 h0) dX2_edgeAt_14 (fun v3 => ?_)
  refine j_iconst dX2_edgeAt_15 (inr_d rfl) ?_
  refine j_icmp_ne (tgt := 24) dX2_edgeAt_16 rfl ?_ ?_
  · refine j_aload_n dX2_edgeAt_24 rfl rfl ?_
    refine j_getR fl_RX2_28 (jo_o h0) rfl dX2_edgeAt_25 ?_
    refine j_iload_n dX2_edgeAt_28 rfl rfl ?_
    refine j_iald (jo_4 h0) dX2_edgeAt_29 (fun v4 => ?_)
    refine j_iload_n dX2_edgeAt_30 rfl rfl ?_
    refine j_iadd dX2_edgeAt_31 ?_
    refine j_aload_n dX2_edgeAt_32 rfl rfl ?_
    refine j_getR fl_RX2_12 (jo_o h0) rfl dX2_edgeAt_33 ?_
    refine j_getR fl_RX2_55 (sc_o (jo_0 h0)) rfl dX2_edgeAt_36 ?_
    refine j_iload_n dX2_edgeAt_39 rfl rfl ?_
    refine j_iald (sc_2 (jo_0 h0)) dX2_edgeAt_40 (fun v5 => ?_)
    refine j_isub dX2_edgeAt_41 ?_
    exact j_iret hq dX2_edgeAt_42
  · refine j_bipush (v := (-4)) dX2_edgeAt_19 (by decide +kernel) (inr_d rfl) ?_
    refine j_goto (tgt := 42) dX2_edgeAt_21 rfl ?_
    exact j_iret hq dX2_edgeAt_42
abbrev rmX2_frameWith : Room := { frames := 1, cells := 0, slots := 0, locals := 21 }
theorem dX2_frameWith_0 : decode cX2_frameWith 0 = .ok (.iconst 0, 1) := by decide +kernel
theorem dX2_frameWith_1 : decode cX2_frameWith 1 = .ok (.istore_n 3, 1) := by decide +kernel
theorem dX2_frameWith_2 : decode cX2_frameWith 2 = .ok (.iload_n 3, 1) := by decide +kernel
theorem dX2_frameWith_3 : decode cX2_frameWith 3 = .ok (.aload_n 0, 1) := by decide +kernel
theorem dX2_frameWith_4 : decode cX2_frameWith 4 = .ok (.getfield 12, 3) := by decide +kernel
theorem dX2_frameWith_7 : decode cX2_frameWith 7 = .ok (.getfield 58, 3) := by decide +kernel
theorem dX2_frameWith_10 : decode cX2_frameWith 10 = .ok (.if_icmp .ge 60, 3) := by decide +kernel
theorem dX2_frameWith_13 : decode cX2_frameWith 13 = .ok (.iload_n 2, 1) := by decide +kernel
theorem dX2_frameWith_14 : decode cX2_frameWith 14 = .ok (.aload_n 0, 1) := by decide +kernel
theorem dX2_frameWith_15 : decode cX2_frameWith 15 = .ok (.getfield 28, 3) := by decide +kernel
theorem dX2_frameWith_18 : decode cX2_frameWith 18 = .ok (.iload_n 3, 1) := by decide +kernel
theorem dX2_frameWith_19 : decode cX2_frameWith 19 = .ok (.iaload, 1) := by decide +kernel
theorem dX2_frameWith_20 : decode cX2_frameWith 20 = .ok (.isub, 1) := by decide +kernel
theorem dX2_frameWith_21 : decode cX2_frameWith 21 = .ok (.istore 4, 2) := by decide +kernel
theorem dX2_frameWith_23 : decode cX2_frameWith 23 = .ok (.aload_n 0, 1) := by decide +kernel
theorem dX2_frameWith_24 : decode cX2_frameWith 24 = .ok (.getfield 25, 3) := by decide +kernel
theorem dX2_frameWith_27 : decode cX2_frameWith 27 = .ok (.iload_n 3, 1) := by decide +kernel
theorem dX2_frameWith_28 : decode cX2_frameWith 28 = .ok (.iaload, 1) := by decide +kernel
theorem dX2_frameWith_29 : decode cX2_frameWith 29 = .ok (.iload_n 1, 1) := by decide +kernel
theorem dX2_frameWith_30 : decode cX2_frameWith 30 = .ok (.if_icmp .ne 34, 3) := by decide +kernel
theorem dX2_frameWith_33 : decode cX2_frameWith 33 = .ok (.iload 4, 2) := by decide +kernel
theorem dX2_frameWith_35 : decode cX2_frameWith 35 = .ok (.ifCond .lt 29, 3) := by decide +kernel
theorem dX2_frameWith_38 : decode cX2_frameWith 38 = .ok (.iload 4, 2) := by decide +kernel
theorem dX2_frameWith_40 : decode cX2_frameWith 40 = .ok (.aload_n 0, 1) := by decide +kernel
theorem dX2_frameWith_41 : decode cX2_frameWith 41 = .ok (.getfield 12, 3) := by decide +kernel
theorem dX2_frameWith_44 : decode cX2_frameWith 44 = .ok (.iload_n 3, 1) := by decide +kernel
theorem dX2_frameWith_45 : decode cX2_frameWith 45 = .ok (.invokevirtual 62, 3) := by decide +kernel
theorem dX2_frameWith_48 : decode cX2_frameWith 48 = .ok (.if_icmp .ge 16, 3) := by decide +kernel
theorem dX2_frameWith_51 : decode cX2_frameWith 51 = .ok (.aload_n 0, 1) := by decide +kernel
theorem dX2_frameWith_52 : decode cX2_frameWith 52 = .ok (.getfield 12, 3) := by decide +kernel
theorem dX2_frameWith_55 : decode cX2_frameWith 55 = .ok (.getfield 55, 3) := by decide +kernel
theorem dX2_frameWith_58 : decode cX2_frameWith 58 = .ok (.iload_n 3, 1) := by decide +kernel
theorem dX2_frameWith_59 : decode cX2_frameWith 59 = .ok (.iaload, 1) := by decide +kernel
theorem dX2_frameWith_60 : decode cX2_frameWith 60 = .ok (.iload 4, 2) := by decide +kernel
theorem dX2_frameWith_62 : decode cX2_frameWith 62 = .ok (.iadd, 1) := by decide +kernel
theorem dX2_frameWith_63 : decode cX2_frameWith 63 = .ok (.ireturn, 1) := by decide +kernel
theorem dX2_frameWith_64 : decode cX2_frameWith 64 = .ok (.iinc 3 1, 3) := by decide +kernel
theorem dX2_frameWith_67 : decode cX2_frameWith 67 = .ok (.goto (-65), 3) := by decide +kernel
theorem dX2_frameWith_70 : decode cX2_frameWith 70 = .ok (.bipush (-4), 2) := by decide +kernel
theorem dX2_frameWith_72 : decode cX2_frameWith 72 = .ok (.ireturn, 1) := by decide +kernel
def LX2_frameWith_2 (t0 : Nat) (c1 : Int) (c2 : Int) (k70 : Mem → Option Res) : Nat → Int → Mem → Option Res
  | 0 => fun _ _ => none
  | n + 1 => fun x3 s => (if s (t0 + 1) 0 ≤ x3 then
 k70 s
 else
 rd (s (t0 + 13)) x3 16 (fun v1 =>
 lt (wr (c2 - v1)) (fun v2 =>
 rd (s (t0 + 12)) x3 16 (fun v3 =>
 (if v3 ≠ c1 then
 LX2_frameWith_2 t0 c1 c2 k70 n (wr (x3 + 1)) s
 else
 (if v2 < 0 then
 LX2_frameWith_2 t0 c1 c2 k70 n (wr (x3 + 1)) s
 else
 bnd (fX6_framesOf (t0 + 1) x3 s) (fun r4 s5 =>
 (if r4 ≤ v2 then
 LX2_frameWith_2 t0 c1 c2 k70 n (wr (x3 + 1)) s5
 else
 rd (s5 ((t0 + 1) + 1)) x3 17 (fun v6 =>
 some (wr (v6 + v2), s5))))))))))
def fX2_frameWith (t0 : Nat) (a1 : Int) (a2 : Int) (s0 : Mem) : Option Res :=
 LX2_frameWith_2 t0 a1 a2 (fun s7 =>
 some ((-4), s7)) FU 0 s0
set_option maxRecDepth 100000 in
set_option maxHeartbeats 4000000 in
theorem jLX2_frameWith_2 {K : KT} (hq : KI K (some .int)) (t0 : Nat) (h0 : isJo t0) (c1 : Int) (c2 : Int) (k70 : Mem → Option Res) (hk70 : ∀ (s : Mem), J K rmX2_frameWith cX2_frameWith RX2 5 70 [none, none, none, none, none] [] s (k70 s)) : ∀ (n : Nat) (x3 : Int) (s : Mem), J K rmX2_frameWith cX2_frameWith RX2 5 2 [some (.inr (.inr t0)), some (.inl c1), some (.inl c2), some (.inl x3), none] [] s (LX2_frameWith_2 t0 c1 c2 k70 n x3 s) := by
  intro n
  induction n with
  | zero => intros; exact J_none
  | succ n ih =>
    intro x3 s
    show J K _ _ _ _ _ _ _ _ (LX2_frameWith_2 t0 c1 c2 k70 (n + 1) x3 s)
    simp only [LX2_frameWith_2]
    refine j_iload_n dX2_frameWith_2 rfl rfl ?_
    refine j_aload_n dX2_frameWith_3 rfl rfl ?_
    refine j_getR fl_RX2_12 (jo_o h0) rfl dX2_frameWith_4 ?_
    refine j_getI fl_RX2_58 (sc_o (jo_0 h0)) rfl dX2_frameWith_7 ?_
    refine j_icmp_ge (tgt := 70) dX2_frameWith_10 rfl ?_ ?_
    · exact j_msk [false, false, false, false, false] (hk70 _)
    · refine j_iload_n dX2_frameWith_13 rfl rfl ?_
      refine j_aload_n dX2_frameWith_14 rfl rfl ?_
      refine j_getR fl_RX2_28 (jo_o h0) rfl dX2_frameWith_15 ?_
      refine j_iload_n dX2_frameWith_18 rfl rfl ?_
      refine j_iald (jo_4 h0) dX2_frameWith_19 (fun v1 => ?_)
      refine j_isub dX2_frameWith_20 ?_
      refine j_ltv (fun v2 => ?_)
      refine j_istoreE (ls2 := [some (.inr (.inr t0)), some (.inl c1), some (.inl c2), some (.inl x3), some (.inl v2)]) dX2_frameWith_21 (by decide) rfl rfl ?_
      refine j_aload_n dX2_frameWith_23 rfl rfl ?_
      refine j_getR fl_RX2_25 (jo_o h0) rfl dX2_frameWith_24 ?_
      refine j_iload_n dX2_frameWith_27 rfl rfl ?_
      refine j_iald (jo_3 h0) dX2_frameWith_28 (fun v3 => ?_)
      refine j_iload_n dX2_frameWith_29 rfl rfl ?_
      refine j_icmp_ne (tgt := 64) dX2_frameWith_30 rfl ?_ ?_
      · refine j_iincE (ls2 := [some (.inr (.inr t0)), some (.inl c1), some (.inl c2), some (.inl (wr (x3 + 1))), some (.inl v2)]) dX2_frameWith_64 rfl (by decide) rfl rfl ?_
        refine j_goto (tgt := 2) dX2_frameWith_67 rfl ?_
        exact j_msk [true, true, true, true, false] (ih _ _)
      · refine j_iload dX2_frameWith_33 rfl ?_
        refine j_if_lt (tgt := 64) dX2_frameWith_35 rfl ?_ ?_
        · refine j_iincE (ls2 := [some (.inr (.inr t0)), some (.inl c1), some (.inl c2), some (.inl (wr (x3 + 1))), some (.inl v2)]) dX2_frameWith_64 rfl (by decide) rfl rfl ?_
          refine j_goto (tgt := 2) dX2_frameWith_67 rfl ?_
          exact j_msk [true, true, true, true, false] (ih _ _)
        · refine j_iload dX2_frameWith_38 rfl ?_
          refine j_aload_n dX2_frameWith_40 rfl rfl ?_
          refine j_getR fl_RX2_12 (jo_o h0) rfl dX2_frameWith_41 ?_
          refine j_iload_n dX2_frameWith_44 rfl rfl ?_
          refine j_callVi (mX6_framesOf (kl K) (kD K) (kad K) (kcA K) (t0 + 1) (jo_0 h0) x3 s) cw_RX2_62 (sc_o (jo_0 h0)) rfl ⟨rfl, rfl, by decide, by decide⟩ rfl rfl (Nat.le_of_ble_eq_true rfl) dX2_frameWith_45 (fun r4 s5 => ?_)
          refine j_icmp_ge (tgt := 64) dX2_frameWith_48 rfl ?_ ?_
          · refine j_iincE (ls2 := [some (.inr (.inr t0)), some (.inl c1), some (.inl c2), some (.inl (wr (x3 + 1))), some (.inl v2)]) dX2_frameWith_64 rfl (by decide) rfl rfl ?_
            refine j_goto (tgt := 2) dX2_frameWith_67 rfl ?_
            exact j_msk [true, true, true, true, false] (ih _ _)
          · refine j_aload_n dX2_frameWith_51 rfl rfl ?_
            refine j_getR fl_RX2_12 (jo_o h0) rfl dX2_frameWith_52 ?_
            refine j_getR fl_RX2_55 (sc_o (jo_0 h0)) rfl dX2_frameWith_55 ?_
            refine j_iload_n dX2_frameWith_58 rfl rfl ?_
            refine j_iald (sc_2 (jo_0 h0)) dX2_frameWith_59 (fun v6 => ?_)
            refine j_iload dX2_frameWith_60 rfl ?_
            refine j_iadd dX2_frameWith_62 ?_
            exact j_iret hq dX2_frameWith_63
set_option maxRecDepth 100000 in
set_option maxHeartbeats 4000000 in
theorem mX2_frameWith (l : Launch) (D : va_G) (ad : Nat → Nat) (cA : Nat → ClassId) (t0 : Nat) (h0 : isJo t0) (a1 : Int) (a2 : Int) (s0 : Mem) : MCi l D ad cA yX2_frameWith cX2_frameWith 5 (some .int) rmX2_frameWith [.inr (.inr t0), .inl a1, .inl a2] s0 (fX2_frameWith t0 a1 a2 s0) := by
  refine MCi_ofE (own := RX2) (ls := [some (.inr (.inr t0)), some (.inl a1), some (.inl a2), none, none]) 2 (by decide +kernel) rfl rfl (fun _ => Nat.le_of_ble_eq_true rfl) (fun K hq => ?_)
  unfold fX2_frameWith
  refine j_iconst dX2_frameWith_0 (inr_d rfl) ?_
  refine j_istore_nE (ls2 := [some (.inr (.inr t0)), some (.inl a1), some (.inl a2), some (.inl 0), none]) dX2_frameWith_1 rfl (by decide) rfl rfl ?_
  refine j_msk [true, true, true, true, false] (jLX2_frameWith_2 hq t0 h0 _ _ _ (fun s7 => ?_) _ _ _)
  refine j_bipush (v := (-4)) dX2_frameWith_70 (by decide +kernel) (inr_d rfl) ?_
  exact j_iret hq dX2_frameWith_72
abbrev rmX10_isWithin : Room := { frames := 0, cells := 0, slots := 0, locals := 0 }
theorem dX10_isWithin_0 : decode cX10_isWithin 0 = .ok (.iload_n 0, 1) := by decide +kernel
theorem dX10_isWithin_1 : decode cX10_isWithin 1 = .ok (.iload_n 1, 1) := by decide +kernel
theorem dX10_isWithin_2 : decode cX10_isWithin 2 = .ok (.if_icmp .lt 12, 3) := by decide +kernel
theorem dX10_isWithin_5 : decode cX10_isWithin 5 = .ok (.iload_n 0, 1) := by decide +kernel
theorem dX10_isWithin_6 : decode cX10_isWithin 6 = .ok (.iload_n 2, 1) := by decide +kernel
theorem dX10_isWithin_7 : decode cX10_isWithin 7 = .ok (.if_icmp .gt 7, 3) := by decide +kernel
theorem dX10_isWithin_10 : decode cX10_isWithin 10 = .ok (.iconst 1, 1) := by decide +kernel
theorem dX10_isWithin_11 : decode cX10_isWithin 11 = .ok (.goto 4, 3) := by decide +kernel
theorem dX10_isWithin_14 : decode cX10_isWithin 14 = .ok (.iconst 0, 1) := by decide +kernel
theorem dX10_isWithin_15 : decode cX10_isWithin 15 = .ok (.ireturn, 1) := by decide +kernel
def fX10_isWithin (a0 : Int) (a1 : Int) (a2 : Int) (s0 : Mem) : Option Res :=
 (if a0 < a1 then
 zr 0 s0
 else
 (if a2 < a0 then
 zr 0 s0
 else
 zr 1 s0))
set_option maxRecDepth 100000 in
set_option maxHeartbeats 4000000 in
theorem mX10_isWithin (l : Launch) (D : va_G) (ad : Nat → Nat) (cA : Nat → ClassId) (a0 : Int) (a1 : Int) (a2 : Int) (s0 : Mem) : MCi l D ad cA yX10_isWithin cX10_isWithin 3 (some .boolean) rmX10_isWithin [.inl a0, .inl a1, .inl a2] s0 (fX10_isWithin a0 a1 a2 s0) := by
  refine MCi_ofE (own := RX10) (ls := [some (.inl a0), some (.inl a1), some (.inl a2)]) 0 (by decide +kernel) rfl rfl (fun _ => Nat.le_of_ble_eq_true rfl) (fun K hq => ?_)
  unfold fX10_isWithin
  refine j_iload_n dX10_isWithin_0 rfl rfl ?_
  refine j_iload_n dX10_isWithin_1 rfl rfl ?_
  refine j_icmp_lt (tgt := 14) dX10_isWithin_2 rfl ?_ ?_
  · refine j_iconst dX10_isWithin_14 (inr_d rfl) ?_
    exact j_zret hq dX10_isWithin_15
  · refine j_iload_n dX10_isWithin_5 rfl rfl ?_
    refine j_iload_n dX10_isWithin_6 rfl rfl ?_
    refine j_icmp_gt (tgt := 14) dX10_isWithin_7 rfl ?_ ?_
    · refine j_iconst dX10_isWithin_14 (inr_d rfl) ?_
      exact j_zret hq dX10_isWithin_15
    · refine j_iconst dX10_isWithin_10 (inr_d rfl) ?_
      refine j_goto (tgt := 15) dX10_isWithin_11 rfl ?_
      exact j_zret hq dX10_isWithin_15
abbrev rmX10_isReel : Room := { frames := 1, cells := 0, slots := 0, locals := 22 }
theorem dX10_isReel_0 : decode cX10_isReel 0 = .ok (.iload_n 0, 1) := by decide +kernel
theorem dX10_isReel_1 : decode cX10_isReel 1 = .ok (.iconst 0, 1) := by decide +kernel
theorem dX10_isReel_2 : decode cX10_isReel 2 = .ok (.bipush 7, 2) := by decide +kernel
theorem dX10_isReel_4 : decode cX10_isReel 4 = .ok (.invokestatic 97, 3) := by decide +kernel
theorem dX10_isReel_7 : decode cX10_isReel 7 = .ok (.ireturn, 1) := by decide +kernel
def fX10_isReel (a0 : Int) (s0 : Mem) : Option Res :=
 bnd (fX10_isWithin a0 0 7 s0) (fun r1 s2 =>
 zr r1 s2)
set_option maxRecDepth 100000 in
set_option maxHeartbeats 4000000 in
theorem mX10_isReel (l : Launch) (D : va_G) (ad : Nat → Nat) (cA : Nat → ClassId) (a0 : Int) (s0 : Mem) : MCi l D ad cA yX10_isReel cX10_isReel 1 (some .boolean) rmX10_isReel [.inl a0] s0 (fX10_isReel a0 s0) := by
  refine MCi_ofE (own := RX10) (ls := [some (.inl a0)]) 0 (by decide +kernel) rfl rfl (fun _ => Nat.le_of_ble_eq_true rfl) (fun K hq => ?_)
  unfold fX10_isReel
  refine j_iload_n dX10_isReel_0 rfl rfl ?_
  refine j_iconst dX10_isReel_1 (inr_d rfl) ?_
  refine j_bipush (v := 7) dX10_isReel_2 (by decide +kernel) (inr_d rfl) ?_
  refine j_callSi (mX10_isWithin (kl K) (kD K) (kad K) (kcA K) a0 0 7 s0) cw_RX10_97 ⟨rfl, rfl, by decide, by decide⟩ rfl rfl (Nat.le_of_ble_eq_true rfl) dX10_isReel_4 (fun r1 s2 => ?_)
  exact j_zret hq dX10_isReel_7
abbrev rmX5_hasAll : Room := { frames := 2, cells := 0, slots := 0, locals := 42 }
theorem dX5_hasAll_0 : decode cX5_hasAll 0 = .ok (.iload_n 1, 1) := by decide +kernel
theorem dX5_hasAll_1 : decode cX5_hasAll 1 = .ok (.invokestatic 30, 3) := by decide +kernel
theorem dX5_hasAll_4 : decode cX5_hasAll 4 = .ok (.ifCond .eq 12, 3) := by decide +kernel
theorem dX5_hasAll_7 : decode cX5_hasAll 7 = .ok (.aload_n 0, 1) := by decide +kernel
theorem dX5_hasAll_8 : decode cX5_hasAll 8 = .ok (.getfield 18, 3) := by decide +kernel
theorem dX5_hasAll_11 : decode cX5_hasAll 11 = .ok (.iload_n 1, 1) := by decide +kernel
theorem dX5_hasAll_12 : decode cX5_hasAll 12 = .ok (.baload, 1) := by decide +kernel
theorem dX5_hasAll_13 : decode cX5_hasAll 13 = .ok (.ifCond .eq 5, 3) := by decide +kernel
theorem dX5_hasAll_16 : decode cX5_hasAll 16 = .ok (.iconst 0, 1) := by decide +kernel
theorem dX5_hasAll_17 : decode cX5_hasAll 17 = .ok (.ireturn, 1) := by decide +kernel
theorem dX5_hasAll_18 : decode cX5_hasAll 18 = .ok (.iload_n 2, 1) := by decide +kernel
theorem dX5_hasAll_19 : decode cX5_hasAll 19 = .ok (.aload_n 0, 1) := by decide +kernel
theorem dX5_hasAll_20 : decode cX5_hasAll 20 = .ok (.getfield 9, 3) := by decide +kernel
theorem dX5_hasAll_23 : decode cX5_hasAll 23 = .ok (.iload_n 1, 1) := by decide +kernel
theorem dX5_hasAll_24 : decode cX5_hasAll 24 = .ok (.iaload, 1) := by decide +kernel
theorem dX5_hasAll_25 : decode cX5_hasAll 25 = .ok (.if_icmp .lt 26, 3) := by decide +kernel
theorem dX5_hasAll_28 : decode cX5_hasAll 28 = .ok (.iload_n 2, 1) := by decide +kernel
theorem dX5_hasAll_29 : decode cX5_hasAll 29 = .ok (.iload_n 3, 1) := by decide +kernel
theorem dX5_hasAll_30 : decode cX5_hasAll 30 = .ok (.iadd, 1) := by decide +kernel
theorem dX5_hasAll_31 : decode cX5_hasAll 31 = .ok (.aload_n 0, 1) := by decide +kernel
theorem dX5_hasAll_32 : decode cX5_hasAll 32 = .ok (.getfield 9, 3) := by decide +kernel
theorem dX5_hasAll_35 : decode cX5_hasAll 35 = .ok (.iload_n 1, 1) := by decide +kernel
theorem dX5_hasAll_36 : decode cX5_hasAll 36 = .ok (.iaload, 1) := by decide +kernel
theorem dX5_hasAll_37 : decode cX5_hasAll 37 = .ok (.aload_n 0, 1) := by decide +kernel
theorem dX5_hasAll_38 : decode cX5_hasAll 38 = .ok (.getfield 15, 3) := by decide +kernel
theorem dX5_hasAll_41 : decode cX5_hasAll 41 = .ok (.iload_n 1, 1) := by decide +kernel
theorem dX5_hasAll_42 : decode cX5_hasAll 42 = .ok (.iaload, 1) := by decide +kernel
theorem dX5_hasAll_43 : decode cX5_hasAll 43 = .ok (.iadd, 1) := by decide +kernel
theorem dX5_hasAll_44 : decode cX5_hasAll 44 = .ok (.if_icmp .gt 7, 3) := by decide +kernel
theorem dX5_hasAll_47 : decode cX5_hasAll 47 = .ok (.iconst 1, 1) := by decide +kernel
theorem dX5_hasAll_48 : decode cX5_hasAll 48 = .ok (.goto 4, 3) := by decide +kernel
theorem dX5_hasAll_51 : decode cX5_hasAll 51 = .ok (.iconst 0, 1) := by decide +kernel
theorem dX5_hasAll_52 : decode cX5_hasAll 52 = .ok (.ireturn, 1) := by decide +kernel
def fX5_hasAll (t0 : Nat) (a1 : Int) (a2 : Int) (a3 : Int) (s0 : Mem) : Option Res :=
 bnd (fX10_isReel a1 s0) (fun r1 s2 =>
 (if r1 = 0 then
 zr 0 s2
 else
 rd (s2 (t0 + 3)) a1 8 (fun v3 =>
 (if v3 = 0 then
 rd (s2 (t0 + 1)) a1 8 (fun v4 =>
 (if a2 < v4 then
 zr 0 s2
 else
 rd (s2 (t0 + 1)) a1 8 (fun v5 =>
 rd (s2 (t0 + 2)) a1 8 (fun v6 =>
 (if wr (v5 + v6) < wr (a2 + a3) then
 zr 0 s2
 else
 zr 1 s2)))))
 else
 zr 0 s2))))
set_option maxRecDepth 100000 in
set_option maxHeartbeats 4000000 in
theorem mX5_hasAll (l : Launch) (D : va_G) (ad : Nat → Nat) (cA : Nat → ClassId) (t0 : Nat) (h0 : isRe t0) (a1 : Int) (a2 : Int) (a3 : Int) (s0 : Mem) : MCi l D ad cA yX5_hasAll cX5_hasAll 4 (some .boolean) rmX5_hasAll [.inr (.inr t0), .inl a1, .inl a2, .inl a3] s0 (fX5_hasAll t0 a1 a2 a3 s0) := by
  refine MCi_ofE (own := RX5) (ls := [some (.inr (.inr t0)), some (.inl a1), some (.inl a2), some (.inl a3)]) 0 (by decide +kernel) rfl rfl (fun _ => Nat.le_of_ble_eq_true rfl) (fun K hq => ?_)
  unfold fX5_hasAll
  refine j_iload_n dX5_hasAll_0 rfl rfl ?_
  refine j_callNi (mX10_isReel (kl K) (kD K) (kad K) (kcA K) a1 s0) cw_RX5_30 ⟨rfl, rfl, by decide, by decide⟩ rfl rfl (Nat.le_of_ble_eq_true rfl) dX5_hasAll_1 (fun r1 s2 => ?_)
  refine j_if_eq (tgt := 16) dX5_hasAll_4 rfl ?_ ?_
  · refine j_iconst dX5_hasAll_16 (inr_d rfl) ?_
    exact j_zret hq dX5_hasAll_17
  · refine j_aload_n dX5_hasAll_7 rfl rfl ?_
    refine j_getR fl_RX5_18 (re_o h0) rfl dX5_hasAll_8 ?_
    refine j_iload_n dX5_hasAll_11 rfl rfl ?_
    refine j_zald (re_2 h0) dX5_hasAll_12 (fun v3 => ?_)
    refine j_if_eq (tgt := 18) dX5_hasAll_13 rfl ?_ ?_
    · refine j_iload_n dX5_hasAll_18 rfl rfl ?_
      refine j_aload_n dX5_hasAll_19 rfl rfl ?_
      refine j_getR fl_RX5_9 (re_o h0) rfl dX5_hasAll_20 ?_
      refine j_iload_n dX5_hasAll_23 rfl rfl ?_
      refine j_iald (re_0 h0) dX5_hasAll_24 (fun v4 => ?_)
      refine j_icmp_lt (tgt := 51) dX5_hasAll_25 rfl ?_ ?_
      · refine j_iconst dX5_hasAll_51 (inr_d rfl) ?_
        exact j_zret hq dX5_hasAll_52
      · refine j_iload_n dX5_hasAll_28 rfl rfl ?_
        refine j_iload_n dX5_hasAll_29 rfl rfl ?_
        refine j_iadd dX5_hasAll_30 ?_
        refine j_aload_n dX5_hasAll_31 rfl rfl ?_
        refine j_getR fl_RX5_9 (re_o h0) rfl dX5_hasAll_32 ?_
        refine j_iload_n dX5_hasAll_35 rfl rfl ?_
        refine j_iald (re_0 h0) dX5_hasAll_36 (fun v5 => ?_)
        refine j_aload_n dX5_hasAll_37 rfl rfl ?_
        refine j_getR fl_RX5_15 (re_o h0) rfl dX5_hasAll_38 ?_
        refine j_iload_n dX5_hasAll_41 rfl rfl ?_
        refine j_iald (re_1 h0) dX5_hasAll_42 (fun v6 => ?_)
        refine j_iadd dX5_hasAll_43 ?_
        refine j_icmp_gt (tgt := 51) dX5_hasAll_44 rfl ?_ ?_
        · refine j_iconst dX5_hasAll_51 (inr_d rfl) ?_
          exact j_zret hq dX5_hasAll_52
        · refine j_iconst dX5_hasAll_47 (inr_d rfl) ?_
          refine j_goto (tgt := 52) dX5_hasAll_48 rfl ?_
          exact j_zret hq dX5_hasAll_52
    · refine j_iconst dX5_hasAll_16 (inr_d rfl) ?_
      exact j_zret hq dX5_hasAll_17
abbrev rmX2_isMissing : Room := { frames := 3, cells := 0, slots := 0, locals := 65 }
theorem dX2_isMissing_0 : decode cX2_isMissing 0 = .ok (.aload_n 0, 1) := by decide +kernel
theorem dX2_isMissing_1 : decode cX2_isMissing 1 = .ok (.getfield 34, 3) := by decide +kernel
theorem dX2_isMissing_4 : decode cX2_isMissing 4 = .ok (.aload_n 0, 1) := by decide +kernel
theorem dX2_isMissing_5 : decode cX2_isMissing 5 = .ok (.getfield 25, 3) := by decide +kernel
theorem dX2_isMissing_8 : decode cX2_isMissing 8 = .ok (.iload_n 1, 1) := by decide +kernel
theorem dX2_isMissing_9 : decode cX2_isMissing 9 = .ok (.iaload, 1) := by decide +kernel
theorem dX2_isMissing_10 : decode cX2_isMissing 10 = .ok (.aload_n 0, 1) := by decide +kernel
theorem dX2_isMissing_11 : decode cX2_isMissing 11 = .ok (.getfield 28, 3) := by decide +kernel
theorem dX2_isMissing_14 : decode cX2_isMissing 14 = .ok (.iload_n 1, 1) := by decide +kernel
theorem dX2_isMissing_15 : decode cX2_isMissing 15 = .ok (.iaload, 1) := by decide +kernel
theorem dX2_isMissing_16 : decode cX2_isMissing 16 = .ok (.aload_n 0, 1) := by decide +kernel
theorem dX2_isMissing_17 : decode cX2_isMissing 17 = .ok (.getfield 12, 3) := by decide +kernel
theorem dX2_isMissing_20 : decode cX2_isMissing 20 = .ok (.iload_n 1, 1) := by decide +kernel
theorem dX2_isMissing_21 : decode cX2_isMissing 21 = .ok (.invokevirtual 62, 3) := by decide +kernel
theorem dX2_isMissing_24 : decode cX2_isMissing 24 = .ok (.invokevirtual 65, 3) := by decide +kernel
theorem dX2_isMissing_27 : decode cX2_isMissing 27 = .ok (.ifCond .ne 7, 3) := by decide +kernel
theorem dX2_isMissing_30 : decode cX2_isMissing 30 = .ok (.iconst 1, 1) := by decide +kernel
theorem dX2_isMissing_31 : decode cX2_isMissing 31 = .ok (.goto 4, 3) := by decide +kernel
theorem dX2_isMissing_34 : decode cX2_isMissing 34 = .ok (.iconst 0, 1) := by decide +kernel
theorem dX2_isMissing_35 : decode cX2_isMissing 35 = .ok (.ireturn, 1) := by decide +kernel
def fX2_isMissing (t0 : Nat) (a1 : Int) (s0 : Mem) : Option Res :=
 rd (s0 (t0 + 12)) a1 16 (fun v1 =>
 rd (s0 (t0 + 13)) a1 16 (fun v2 =>
 bnd (fX6_framesOf (t0 + 1) a1 s0) (fun r3 s4 =>
 bnd (fX5_hasAll (t0 + 14) v1 v2 r3 s4) (fun r5 s6 =>
 (if r5 ≠ 0 then
 zr 0 s6
 else
 zr 1 s6)))))
set_option maxRecDepth 100000 in
set_option maxHeartbeats 4000000 in
theorem mX2_isMissing (l : Launch) (D : va_G) (ad : Nat → Nat) (cA : Nat → ClassId) (t0 : Nat) (h0 : isJo t0) (a1 : Int) (s0 : Mem) : MCi l D ad cA yX2_isMissing cX2_isMissing 2 (some .boolean) rmX2_isMissing [.inr (.inr t0), .inl a1] s0 (fX2_isMissing t0 a1 s0) := by
  refine MCi_ofE (own := RX2) (ls := [some (.inr (.inr t0)), some (.inl a1)]) 0 (by decide +kernel) rfl rfl (fun _ => Nat.le_of_ble_eq_true rfl) (fun K hq => ?_)
  unfold fX2_isMissing
  refine j_aload_n dX2_isMissing_0 rfl rfl ?_
  refine j_getR fl_RX2_34 (jo_o h0) rfl dX2_isMissing_1 ?_
  refine j_aload_n dX2_isMissing_4 rfl rfl ?_
  refine j_getR fl_RX2_25 (jo_o h0) rfl dX2_isMissing_5 ?_
  refine j_iload_n dX2_isMissing_8 rfl rfl ?_
  refine j_iald (jo_3 h0) dX2_isMissing_9 (fun v1 => ?_)
  refine j_aload_n dX2_isMissing_10 rfl rfl ?_
  refine j_getR fl_RX2_28 (jo_o h0) rfl dX2_isMissing_11 ?_
  refine j_iload_n dX2_isMissing_14 rfl rfl ?_
  refine j_iald (jo_4 h0) dX2_isMissing_15 (fun v2 => ?_)
  refine j_aload_n dX2_isMissing_16 rfl rfl ?_
  refine j_getR fl_RX2_12 (jo_o h0) rfl dX2_isMissing_17 ?_
  refine j_iload_n dX2_isMissing_20 rfl rfl ?_
  refine j_callVi (mX6_framesOf (kl K) (kD K) (kad K) (kcA K) (t0 + 1) (jo_0 h0) a1 s0) cw_RX2_62 (sc_o (jo_0 h0)) rfl ⟨rfl, rfl, by decide, by decide⟩ rfl rfl (Nat.le_of_ble_eq_true rfl) dX2_isMissing_21 (fun r3 s4 => ?_)
  refine j_callVi (mX5_hasAll (kl K) (kD K) (kad K) (kcA K) (t0 + 14) (jo_5 h0) v1 v2 r3 s4) cw_RX2_65 (re_o (jo_5 h0)) rfl ⟨rfl, rfl, by decide, by decide⟩ rfl rfl (Nat.le_of_ble_eq_true rfl) dX2_isMissing_24 (fun r5 s6 => ?_)
  refine j_if_ne (tgt := 34) dX2_isMissing_27 rfl ?_ ?_
  · refine j_iconst dX2_isMissing_34 (inr_d rfl) ?_
    exact j_zret hq dX2_isMissing_35
  · refine j_iconst dX2_isMissing_30 (inr_d rfl) ?_
    refine j_goto (tgt := 35) dX2_isMissing_31 rfl ?_
    exact j_zret hq dX2_isMissing_35
abbrev rmX2_isSpliced : Room := { frames := 1, cells := 0, slots := 0, locals := 21 }
theorem dX2_isSpliced_0 : decode cX2_isSpliced 0 = .ok (.iload_n 1, 1) := by decide +kernel
theorem dX2_isSpliced_1 : decode cX2_isSpliced 1 = .ok (.iconst 1, 1) := by decide +kernel
theorem dX2_isSpliced_2 : decode cX2_isSpliced 2 = .ok (.iadd, 1) := by decide +kernel
theorem dX2_isSpliced_3 : decode cX2_isSpliced 3 = .ok (.aload_n 0, 1) := by decide +kernel
theorem dX2_isSpliced_4 : decode cX2_isSpliced 4 = .ok (.getfield 12, 3) := by decide +kernel
theorem dX2_isSpliced_7 : decode cX2_isSpliced 7 = .ok (.getfield 58, 3) := by decide +kernel
theorem dX2_isSpliced_10 : decode cX2_isSpliced 10 = .ok (.if_icmp .lt 5, 3) := by decide +kernel
theorem dX2_isSpliced_13 : decode cX2_isSpliced 13 = .ok (.iconst 0, 1) := by decide +kernel
theorem dX2_isSpliced_14 : decode cX2_isSpliced 14 = .ok (.ireturn, 1) := by decide +kernel
theorem dX2_isSpliced_15 : decode cX2_isSpliced 15 = .ok (.aload_n 0, 1) := by decide +kernel
theorem dX2_isSpliced_16 : decode cX2_isSpliced 16 = .ok (.getfield 25, 3) := by decide +kernel
theorem dX2_isSpliced_19 : decode cX2_isSpliced 19 = .ok (.iload_n 1, 1) := by decide +kernel
theorem dX2_isSpliced_20 : decode cX2_isSpliced 20 = .ok (.iaload, 1) := by decide +kernel
theorem dX2_isSpliced_21 : decode cX2_isSpliced 21 = .ok (.iconst (-1), 1) := by decide +kernel
theorem dX2_isSpliced_22 : decode cX2_isSpliced 22 = .ok (.if_icmp .eq 24, 3) := by decide +kernel
theorem dX2_isSpliced_25 : decode cX2_isSpliced 25 = .ok (.aload_n 0, 1) := by decide +kernel
theorem dX2_isSpliced_26 : decode cX2_isSpliced 26 = .ok (.getfield 25, 3) := by decide +kernel
theorem dX2_isSpliced_29 : decode cX2_isSpliced 29 = .ok (.iload_n 1, 1) := by decide +kernel
theorem dX2_isSpliced_30 : decode cX2_isSpliced 30 = .ok (.iaload, 1) := by decide +kernel
theorem dX2_isSpliced_31 : decode cX2_isSpliced 31 = .ok (.aload_n 0, 1) := by decide +kernel
theorem dX2_isSpliced_32 : decode cX2_isSpliced 32 = .ok (.getfield 25, 3) := by decide +kernel
theorem dX2_isSpliced_35 : decode cX2_isSpliced 35 = .ok (.iload_n 1, 1) := by decide +kernel
theorem dX2_isSpliced_36 : decode cX2_isSpliced 36 = .ok (.iconst 1, 1) := by decide +kernel
theorem dX2_isSpliced_37 : decode cX2_isSpliced 37 = .ok (.iadd, 1) := by decide +kernel
theorem dX2_isSpliced_38 : decode cX2_isSpliced 38 = .ok (.iaload, 1) := by decide +kernel
theorem dX2_isSpliced_39 : decode cX2_isSpliced 39 = .ok (.if_icmp .ne 7, 3) := by decide +kernel
theorem dX2_isSpliced_42 : decode cX2_isSpliced 42 = .ok (.iconst 1, 1) := by decide +kernel
theorem dX2_isSpliced_43 : decode cX2_isSpliced 43 = .ok (.goto 4, 3) := by decide +kernel
theorem dX2_isSpliced_46 : decode cX2_isSpliced 46 = .ok (.iconst 0, 1) := by decide +kernel
theorem dX2_isSpliced_47 : decode cX2_isSpliced 47 = .ok (.istore_n 2, 1) := by decide +kernel
theorem dX2_isSpliced_48 : decode cX2_isSpliced 48 = .ok (.iload_n 2, 1) := by decide +kernel
theorem dX2_isSpliced_49 : decode cX2_isSpliced 49 = .ok (.ifCond .eq 29, 3) := by decide +kernel
theorem dX2_isSpliced_52 : decode cX2_isSpliced 52 = .ok (.aload_n 0, 1) := by decide +kernel
theorem dX2_isSpliced_53 : decode cX2_isSpliced 53 = .ok (.getfield 28, 3) := by decide +kernel
theorem dX2_isSpliced_56 : decode cX2_isSpliced 56 = .ok (.iload_n 1, 1) := by decide +kernel
theorem dX2_isSpliced_57 : decode cX2_isSpliced 57 = .ok (.iaload, 1) := by decide +kernel
theorem dX2_isSpliced_58 : decode cX2_isSpliced 58 = .ok (.aload_n 0, 1) := by decide +kernel
theorem dX2_isSpliced_59 : decode cX2_isSpliced 59 = .ok (.getfield 12, 3) := by decide +kernel
theorem dX2_isSpliced_62 : decode cX2_isSpliced 62 = .ok (.iload_n 1, 1) := by decide +kernel
theorem dX2_isSpliced_63 : decode cX2_isSpliced 63 = .ok (.invokevirtual 62, 3) := by decide +kernel
theorem dX2_isSpliced_66 : decode cX2_isSpliced 66 = .ok (.iadd, 1) := by decide +kernel
theorem dX2_isSpliced_67 : decode cX2_isSpliced 67 = .ok (.aload_n 0, 1) := by decide +kernel
theorem dX2_isSpliced_68 : decode cX2_isSpliced 68 = .ok (.getfield 28, 3) := by decide +kernel
theorem dX2_isSpliced_71 : decode cX2_isSpliced 71 = .ok (.iload_n 1, 1) := by decide +kernel
theorem dX2_isSpliced_72 : decode cX2_isSpliced 72 = .ok (.iconst 1, 1) := by decide +kernel
theorem dX2_isSpliced_73 : decode cX2_isSpliced 73 = .ok (.iadd, 1) := by decide +kernel
theorem dX2_isSpliced_74 : decode cX2_isSpliced 74 = .ok (.iaload, 1) := by decide +kernel
theorem dX2_isSpliced_75 : decode cX2_isSpliced 75 = .ok (.if_icmp .eq 7, 3) := by decide +kernel
theorem dX2_isSpliced_78 : decode cX2_isSpliced 78 = .ok (.iconst 1, 1) := by decide +kernel
theorem dX2_isSpliced_79 : decode cX2_isSpliced 79 = .ok (.goto 4, 3) := by decide +kernel
theorem dX2_isSpliced_82 : decode cX2_isSpliced 82 = .ok (.iconst 0, 1) := by decide +kernel
theorem dX2_isSpliced_83 : decode cX2_isSpliced 83 = .ok (.ireturn, 1) := by decide +kernel
def fX2_isSpliced (t0 : Nat) (a1 : Int) (s0 : Mem) : Option Res :=
 (if wr (a1 + 1) < s0 (t0 + 1) 0 then
 rd (s0 (t0 + 12)) a1 16 (fun v1 =>
 jn (fun (u2 : Int) (s3 : Mem) =>
 (if u2 = 0 then
 zr 1 s3
 else
 rd (s3 (t0 + 13)) a1 16 (fun v4 =>
 bnd (fX6_framesOf (t0 + 1) a1 s3) (fun r5 s6 =>
 rd (s6 (t0 + 13)) (wr (a1 + 1)) 16 (fun v7 =>
 (if wr (v4 + r5) = v7 then
 zr 0 s6
 else
 zr 1 s6)))))) (fun k47 =>
 (if v1 = (-1) then
 k47 0 s0
 else
 rd (s0 (t0 + 12)) a1 16 (fun v8 =>
 rd (s0 (t0 + 12)) (wr (a1 + 1)) 16 (fun v9 =>
 (if v8 ≠ v9 then
 k47 0 s0
 else
 k47 1 s0))))))
 else
 zr 0 s0)
set_option maxRecDepth 100000 in
set_option maxHeartbeats 4000000 in
theorem mX2_isSpliced (l : Launch) (D : va_G) (ad : Nat → Nat) (cA : Nat → ClassId) (t0 : Nat) (h0 : isJo t0) (a1 : Int) (s0 : Mem) : MCi l D ad cA yX2_isSpliced cX2_isSpliced 3 (some .boolean) rmX2_isSpliced [.inr (.inr t0), .inl a1] s0 (fX2_isSpliced t0 a1 s0) := by
  refine MCi_ofE (own := RX2) (ls := [some (.inr (.inr t0)), some (.inl a1), none]) 1 (by decide +kernel) rfl rfl (fun _ => Nat.le_of_ble_eq_true rfl) (fun K hq => ?_)
  unfold fX2_isSpliced
  refine j_iload_n dX2_isSpliced_0 rfl rfl ?_
  refine j_iconst dX2_isSpliced_1 (inr_d rfl) ?_
  refine j_iadd dX2_isSpliced_2 ?_
  refine j_aload_n dX2_isSpliced_3 rfl rfl ?_
  refine j_getR fl_RX2_12 (jo_o h0) rfl dX2_isSpliced_4 ?_
  refine j_getI fl_RX2_58 (sc_o (jo_0 h0)) rfl dX2_isSpliced_7 ?_
  refine j_icmp_lt (tgt := 15) dX2_isSpliced_10 rfl ?_ ?_
  · refine j_aload_n dX2_isSpliced_15 rfl rfl ?_
    refine j_getR fl_RX2_25 (jo_o h0) rfl dX2_isSpliced_16 ?_
    refine j_iload_n dX2_isSpliced_19 rfl rfl ?_
    refine j_iald (jo_3 h0) dX2_isSpliced_20 (fun v1 => ?_)
    refine j_iconst dX2_isSpliced_21 (inr_d rfl) ?_
    refine j_jn (fun k47 => ∀ (u2 : Int) (s3 : Mem), J K rmX2_isSpliced cX2_isSpliced RX2 3 47 [some (.inr (.inr t0)), some (.inl a1), none] [.inl u2] s3 (k47 u2 s3)) (fun u2 s3 => ?_) (fun k47 hk47 => ?_)
    · refine j_istore_nE (ls2 := [some (.inr (.inr t0)), some (.inl a1), some (.inl u2)]) dX2_isSpliced_47 rfl (by decide) rfl rfl ?_
      refine j_iload_n dX2_isSpliced_48 rfl rfl ?_
      refine j_if_eq (tgt := 78) dX2_isSpliced_49 rfl ?_ ?_
      · refine j_iconst dX2_isSpliced_78 (inr_d rfl) ?_
        refine j_goto (tgt := 83) dX2_isSpliced_79 rfl ?_
        exact j_zret hq dX2_isSpliced_83
      · refine j_aload_n dX2_isSpliced_52 rfl rfl ?_
        refine j_getR fl_RX2_28 (jo_o h0) rfl dX2_isSpliced_53 ?_
        refine j_iload_n dX2_isSpliced_56 rfl rfl ?_
        refine j_iald (jo_4 h0) dX2_isSpliced_57 (fun v4 => ?_)
        refine j_aload_n dX2_isSpliced_58 rfl rfl ?_
        refine j_getR fl_RX2_12 (jo_o h0) rfl dX2_isSpliced_59 ?_
        refine j_iload_n dX2_isSpliced_62 rfl rfl ?_
        refine j_callVi (mX6_framesOf (kl K) (kD K) (kad K) (kcA K) (t0 + 1) (jo_0 h0) a1 s3) cw_RX2_62 (sc_o (jo_0 h0)) rfl ⟨rfl, rfl, by decide, by decide⟩ rfl rfl (Nat.le_of_ble_eq_true rfl) dX2_isSpliced_63 (fun r5 s6 => ?_)
        refine j_iadd dX2_isSpliced_66 ?_
        refine j_aload_n dX2_isSpliced_67 rfl rfl ?_
        refine j_getR fl_RX2_28 (jo_o h0) rfl dX2_isSpliced_68 ?_
        refine j_iload_n dX2_isSpliced_71 rfl rfl ?_
        refine j_iconst dX2_isSpliced_72 (inr_d rfl) ?_
        refine j_iadd dX2_isSpliced_73 ?_
        refine j_iald (jo_4 h0) dX2_isSpliced_74 (fun v7 => ?_)
        refine j_icmp_eq (tgt := 82) dX2_isSpliced_75 rfl ?_ ?_
        · refine j_iconst dX2_isSpliced_82 (inr_d rfl) ?_
          exact j_zret hq dX2_isSpliced_83
        · refine j_iconst dX2_isSpliced_78 (inr_d rfl) ?_
          refine j_goto (tgt := 83) dX2_isSpliced_79 rfl ?_
          exact j_zret hq dX2_isSpliced_83
    refine j_icmp_eq (tgt := 46) dX2_isSpliced_22 rfl ?_ ?_
    · refine j_iconst dX2_isSpliced_46 (inr_d rfl) ?_
      exact j_msk [true, true, false] (hk47 _ _)
    · refine j_aload_n dX2_isSpliced_25 rfl rfl ?_
      refine j_getR fl_RX2_25 (jo_o h0) rfl dX2_isSpliced_26 ?_
      refine j_iload_n dX2_isSpliced_29 rfl rfl ?_
      refine j_iald (jo_3 h0) dX2_isSpliced_30 (fun v8 => ?_)
      refine j_aload_n dX2_isSpliced_31 rfl rfl ?_
      refine j_getR fl_RX2_25 (jo_o h0) rfl dX2_isSpliced_32 ?_
      refine j_iload_n dX2_isSpliced_35 rfl rfl ?_
      refine j_iconst dX2_isSpliced_36 (inr_d rfl) ?_
      refine j_iadd dX2_isSpliced_37 ?_
      refine j_iald (jo_3 h0) dX2_isSpliced_38 (fun v9 => ?_)
      refine j_icmp_ne (tgt := 46) dX2_isSpliced_39 rfl ?_ ?_
      · refine j_iconst dX2_isSpliced_46 (inr_d rfl) ?_
        exact j_msk [true, true, false] (hk47 _ _)
      · refine j_iconst dX2_isSpliced_42 (inr_d rfl) ?_
        refine j_goto (tgt := 47) dX2_isSpliced_43 rfl ?_
        exact j_msk [true, true, false] (hk47 _ _)
  · refine j_iconst dX2_isSpliced_13 (inr_d rfl) ?_
    exact j_zret hq dX2_isSpliced_14
abbrev rmX2_wearSplices : Room := { frames := 4, cells := 0, slots := 0, locals := 94 }
theorem dX2_wearSplices_0 : decode cX2_wearSplices 0 = .ok (.iconst 0, 1) := by decide +kernel
theorem dX2_wearSplices_1 : decode cX2_wearSplices 1 = .ok (.istore_n 2, 1) := by decide +kernel
theorem dX2_wearSplices_2 : decode cX2_wearSplices 2 = .ok (.iload_n 2, 1) := by decide +kernel
theorem dX2_wearSplices_3 : decode cX2_wearSplices 3 = .ok (.iconst 1, 1) := by decide +kernel
theorem dX2_wearSplices_4 : decode cX2_wearSplices 4 = .ok (.iadd, 1) := by decide +kernel
theorem dX2_wearSplices_5 : decode cX2_wearSplices 5 = .ok (.aload_n 0, 1) := by decide +kernel
theorem dX2_wearSplices_6 : decode cX2_wearSplices 6 = .ok (.getfield 12, 3) := by decide +kernel
theorem dX2_wearSplices_9 : decode cX2_wearSplices 9 = .ok (.getfield 58, 3) := by decide +kernel
theorem dX2_wearSplices_12 : decode cX2_wearSplices 12 = .ok (.if_icmp .ge 69, 3) := by decide +kernel
theorem dX2_wearSplices_15 : decode cX2_wearSplices 15 = .ok (.aload_n 0, 1) := by decide +kernel
theorem dX2_wearSplices_16 : decode cX2_wearSplices 16 = .ok (.iload_n 2, 1) := by decide +kernel
theorem dX2_wearSplices_17 : decode cX2_wearSplices 17 = .ok (.invokevirtual 69, 3) := by decide +kernel
theorem dX2_wearSplices_20 : decode cX2_wearSplices 20 = .ok (.ifCond .eq 55, 3) := by decide +kernel
theorem dX2_wearSplices_23 : decode cX2_wearSplices 23 = .ok (.aload_n 0, 1) := by decide +kernel
theorem dX2_wearSplices_24 : decode cX2_wearSplices 24 = .ok (.getfield 12, 3) := by decide +kernel
theorem dX2_wearSplices_27 : decode cX2_wearSplices 27 = .ok (.iload_n 2, 1) := by decide +kernel
theorem dX2_wearSplices_28 : decode cX2_wearSplices 28 = .ok (.invokevirtual 73, 3) := by decide +kernel
theorem dX2_wearSplices_31 : decode cX2_wearSplices 31 = .ok (.bipush 10, 2) := by decide +kernel
theorem dX2_wearSplices_33 : decode cX2_wearSplices 33 = .ok (.if_icmp .lt 7, 3) := by decide +kernel
theorem dX2_wearSplices_36 : decode cX2_wearSplices 36 = .ok (.iconst 2, 1) := by decide +kernel
theorem dX2_wearSplices_37 : decode cX2_wearSplices 37 = .ok (.goto 4, 3) := by decide +kernel
theorem dX2_wearSplices_40 : decode cX2_wearSplices 40 = .ok (.iconst 0, 1) := by decide +kernel
theorem dX2_wearSplices_41 : decode cX2_wearSplices 41 = .ok (.istore_n 3, 1) := by decide +kernel
theorem dX2_wearSplices_42 : decode cX2_wearSplices 42 = .ok (.aload_n 0, 1) := by decide +kernel
theorem dX2_wearSplices_43 : decode cX2_wearSplices 43 = .ok (.getfield 38, 3) := by decide +kernel
theorem dX2_wearSplices_46 : decode cX2_wearSplices 46 = .ok (.iload_n 2, 1) := by decide +kernel
theorem dX2_wearSplices_47 : decode cX2_wearSplices 47 = .ok (.iconst 0, 1) := by decide +kernel
theorem dX2_wearSplices_48 : decode cX2_wearSplices 48 = .ok (.aload_n 0, 1) := by decide +kernel
theorem dX2_wearSplices_49 : decode cX2_wearSplices 49 = .ok (.getfield 38, 3) := by decide +kernel
theorem dX2_wearSplices_52 : decode cX2_wearSplices 52 = .ok (.iload_n 2, 1) := by decide +kernel
theorem dX2_wearSplices_53 : decode cX2_wearSplices 53 = .ok (.iaload, 1) := by decide +kernel
theorem dX2_wearSplices_54 : decode cX2_wearSplices 54 = .ok (.iload_n 1, 1) := by decide +kernel
theorem dX2_wearSplices_55 : decode cX2_wearSplices 55 = .ok (.isub, 1) := by decide +kernel
theorem dX2_wearSplices_56 : decode cX2_wearSplices 56 = .ok (.iload_n 3, 1) := by decide +kernel
theorem dX2_wearSplices_57 : decode cX2_wearSplices 57 = .ok (.isub, 1) := by decide +kernel
theorem dX2_wearSplices_58 : decode cX2_wearSplices 58 = .ok (.invokestatic 76, 3) := by decide +kernel
theorem dX2_wearSplices_61 : decode cX2_wearSplices 61 = .ok (.iastore, 1) := by decide +kernel
theorem dX2_wearSplices_62 : decode cX2_wearSplices 62 = .ok (.aload_n 0, 1) := by decide +kernel
theorem dX2_wearSplices_63 : decode cX2_wearSplices 63 = .ok (.getfield 38, 3) := by decide +kernel
theorem dX2_wearSplices_66 : decode cX2_wearSplices 66 = .ok (.iload_n 2, 1) := by decide +kernel
theorem dX2_wearSplices_67 : decode cX2_wearSplices 67 = .ok (.iaload, 1) := by decide +kernel
theorem dX2_wearSplices_68 : decode cX2_wearSplices 68 = .ok (.ifCond .ne 7, 3) := by decide +kernel
theorem dX2_wearSplices_71 : decode cX2_wearSplices 71 = .ok (.iload_n 2, 1) := by decide +kernel
theorem dX2_wearSplices_72 : decode cX2_wearSplices 72 = .ok (.iconst 1, 1) := by decide +kernel
theorem dX2_wearSplices_73 : decode cX2_wearSplices 73 = .ok (.iadd, 1) := by decide +kernel
theorem dX2_wearSplices_74 : decode cX2_wearSplices 74 = .ok (.ireturn, 1) := by decide +kernel
theorem dX2_wearSplices_75 : decode cX2_wearSplices 75 = .ok (.iinc 2 1, 3) := by decide +kernel
theorem dX2_wearSplices_78 : decode cX2_wearSplices 78 = .ok (.goto (-76), 3) := by decide +kernel
theorem dX2_wearSplices_81 : decode cX2_wearSplices 81 = .ok (.aload_n 0, 1) := by decide +kernel
theorem dX2_wearSplices_82 : decode cX2_wearSplices 82 = .ok (.getfield 12, 3) := by decide +kernel
theorem dX2_wearSplices_85 : decode cX2_wearSplices 85 = .ok (.getfield 58, 3) := by decide +kernel
theorem dX2_wearSplices_88 : decode cX2_wearSplices 88 = .ok (.ireturn, 1) := by decide +kernel
def LX2_wearSplices_2 (t0 : Nat) (c1 : Int) (k81 : Mem → Option Res) : Nat → Int → Mem → Option Res
  | 0 => fun _ _ => none
  | n + 1 => fun x2 s => (if s (t0 + 1) 0 ≤ wr (x2 + 1) then
 k81 s
 else
 bnd (fX2_isSpliced t0 x2 s) (fun r1 s2 =>
 (if r1 = 0 then
 LX2_wearSplices_2 t0 c1 k81 n (wr (x2 + 1)) s2
 else
 bnd (fX6_jumpBehind (t0 + 1) x2 s2) (fun r3 s4 =>
 jn (fun (u5 : Int) (s6 : Mem) =>
 rd (s6 (t0 + 18)) x2 15 (fun v7 =>
 ST s6 (t0 + 18) x2 15 (mx 0 (wr ((wr (v7 - c1)) - u5))) (fun s8 =>
 rd (s8 (t0 + 18)) x2 15 (fun v9 =>
 (if v9 ≠ 0 then
 LX2_wearSplices_2 t0 c1 k81 n (wr (x2 + 1)) s8
 else
 some (wr (x2 + 1), s8)))))) (fun k41 =>
 (if r3 < 10 then
 k41 0 s4
 else
 k41 2 s4))))))
def fX2_wearSplices (t0 : Nat) (a1 : Int) (s0 : Mem) : Option Res :=
 LX2_wearSplices_2 t0 a1 (fun s10 =>
 some (s10 (t0 + 1) 0, s10)) FU 0 s0
set_option maxRecDepth 100000 in
set_option maxHeartbeats 4000000 in
theorem jLX2_wearSplices_2 {K : KT} (hq : KI K (some .int)) (t0 : Nat) (h0 : isJo t0) (c1 : Int) (k81 : Mem → Option Res) (hk81 : ∀ (s : Mem), J K rmX2_wearSplices cX2_wearSplices RX2 4 81 [some (.inr (.inr t0)), none, none, none] [] s (k81 s)) : ∀ (n : Nat) (x2 : Int) (s : Mem), J K rmX2_wearSplices cX2_wearSplices RX2 4 2 [some (.inr (.inr t0)), some (.inl c1), some (.inl x2), none] [] s (LX2_wearSplices_2 t0 c1 k81 n x2 s) := by
  intro n
  induction n with
  | zero => intros; exact J_none
  | succ n ih =>
    intro x2 s
    show J K _ _ _ _ _ _ _ _ (LX2_wearSplices_2 t0 c1 k81 (n + 1) x2 s)
    simp only [LX2_wearSplices_2]
    refine j_iload_n dX2_wearSplices_2 rfl rfl ?_
    refine j_iconst dX2_wearSplices_3 (inr_d rfl) ?_
    refine j_iadd dX2_wearSplices_4 ?_
    refine j_aload_n dX2_wearSplices_5 rfl rfl ?_
    refine j_getR fl_RX2_12 (jo_o h0) rfl dX2_wearSplices_6 ?_
    refine j_getI fl_RX2_58 (sc_o (jo_0 h0)) rfl dX2_wearSplices_9 ?_
    refine j_icmp_ge (tgt := 81) dX2_wearSplices_12 rfl ?_ ?_
    · exact j_msk [true, false, false, false] (hk81 _)
    · refine j_aload_n dX2_wearSplices_15 rfl rfl ?_
      refine j_iload_n dX2_wearSplices_16 rfl rfl ?_
      refine j_callVi (mX2_isSpliced (kl K) (kD K) (kad K) (kcA K) t0 h0 x2 s) cw_RX2_69 (jo_o h0) rfl ⟨rfl, rfl, by decide, by decide⟩ rfl rfl (Nat.le_of_ble_eq_true rfl) dX2_wearSplices_17 (fun r1 s2 => ?_)
      refine j_if_eq (tgt := 75) dX2_wearSplices_20 rfl ?_ ?_
      · refine j_iincE (ls2 := [some (.inr (.inr t0)), some (.inl c1), some (.inl (wr (x2 + 1))), none]) dX2_wearSplices_75 rfl (by decide) rfl rfl ?_
        refine j_goto (tgt := 2) dX2_wearSplices_78 rfl ?_
        exact j_msk [true, true, true, false] (ih _ _)
      · refine j_aload_n dX2_wearSplices_23 rfl rfl ?_
        refine j_getR fl_RX2_12 (jo_o h0) rfl dX2_wearSplices_24 ?_
        refine j_iload_n dX2_wearSplices_27 rfl rfl ?_
        refine j_callVi (mX6_jumpBehind (kl K) (kD K) (kad K) (kcA K) (t0 + 1) (jo_0 h0) x2 s2) cw_RX2_73 (sc_o (jo_0 h0)) rfl ⟨rfl, rfl, by decide, by decide⟩ rfl rfl (Nat.le_of_ble_eq_true rfl) dX2_wearSplices_28 (fun r3 s4 => ?_)
        refine j_bipush (v := 10) dX2_wearSplices_31 (by decide +kernel) (inr_d rfl) ?_
        refine j_jn (fun k41 => ∀ (u5 : Int) (s6 : Mem), J K rmX2_wearSplices cX2_wearSplices RX2 4 41 [some (.inr (.inr t0)), some (.inl c1), some (.inl x2), none] [.inl u5] s6 (k41 u5 s6)) (fun u5 s6 => ?_) (fun k41 hk41 => ?_)
        · refine j_istore_nE (ls2 := [some (.inr (.inr t0)), some (.inl c1), some (.inl x2), some (.inl u5)]) dX2_wearSplices_41 rfl (by decide) rfl rfl ?_
          refine j_aload_n dX2_wearSplices_42 rfl rfl ?_
          refine j_getR fl_RX2_38 (jo_o h0) rfl dX2_wearSplices_43 ?_
          refine j_iload_n dX2_wearSplices_46 rfl rfl ?_
          refine j_iconst dX2_wearSplices_47 (inr_d rfl) ?_
          refine j_aload_n dX2_wearSplices_48 rfl rfl ?_
          refine j_getR fl_RX2_38 (jo_o h0) rfl dX2_wearSplices_49 ?_
          refine j_iload_n dX2_wearSplices_52 rfl rfl ?_
          refine j_iald (jo_6 h0) dX2_wearSplices_53 (fun v7 => ?_)
          refine j_iload_n dX2_wearSplices_54 rfl rfl ?_
          refine j_isub dX2_wearSplices_55 ?_
          refine j_iload_n dX2_wearSplices_56 rfl rfl ?_
          refine j_isub dX2_wearSplices_57 ?_
          refine j_max mw_RX2_76 ⟨by decide, Nat.le_of_ble_eq_true rfl⟩ dX2_wearSplices_58 ?_
          refine j_iast (jo_6 h0) dX2_wearSplices_61 (fun s8 => ?_)
          refine j_aload_n dX2_wearSplices_62 rfl rfl ?_
          refine j_getR fl_RX2_38 (jo_o h0) rfl dX2_wearSplices_63 ?_
          refine j_iload_n dX2_wearSplices_66 rfl rfl ?_
          refine j_iald (jo_6 h0) dX2_wearSplices_67 (fun v9 => ?_)
          refine j_if_ne (tgt := 75) dX2_wearSplices_68 rfl ?_ ?_
          · refine j_iincE (ls2 := [some (.inr (.inr t0)), some (.inl c1), some (.inl (wr (x2 + 1))), some (.inl u5)]) dX2_wearSplices_75 rfl (by decide) rfl rfl ?_
            refine j_goto (tgt := 2) dX2_wearSplices_78 rfl ?_
            exact j_msk [true, true, true, false] (ih _ _)
          · refine j_iload_n dX2_wearSplices_71 rfl rfl ?_
            refine j_iconst dX2_wearSplices_72 (inr_d rfl) ?_
            refine j_iadd dX2_wearSplices_73 ?_
            exact j_iret hq dX2_wearSplices_74
        refine j_icmp_lt (tgt := 40) dX2_wearSplices_33 rfl ?_ ?_
        · refine j_iconst dX2_wearSplices_40 (inr_d rfl) ?_
          exact j_msk [true, true, true, false] (hk41 _ _)
        · refine j_iconst dX2_wearSplices_36 (inr_d rfl) ?_
          refine j_goto (tgt := 41) dX2_wearSplices_37 rfl ?_
          exact j_msk [true, true, true, false] (hk41 _ _)
set_option maxRecDepth 100000 in
set_option maxHeartbeats 4000000 in
theorem mX2_wearSplices (l : Launch) (D : va_G) (ad : Nat → Nat) (cA : Nat → ClassId) (t0 : Nat) (h0 : isJo t0) (a1 : Int) (s0 : Mem) : MCi l D ad cA yX2_wearSplices cX2_wearSplices 4 (some .int) rmX2_wearSplices [.inr (.inr t0), .inl a1] s0 (fX2_wearSplices t0 a1 s0) := by
  refine MCi_ofE (own := RX2) (ls := [some (.inr (.inr t0)), some (.inl a1), none, none]) 2 (by decide +kernel) rfl rfl (fun _ => Nat.le_of_ble_eq_true rfl) (fun K hq => ?_)
  unfold fX2_wearSplices
  refine j_iconst dX2_wearSplices_0 (inr_d rfl) ?_
  refine j_istore_nE (ls2 := [some (.inr (.inr t0)), some (.inl a1), some (.inl 0), none]) dX2_wearSplices_1 rfl (by decide) rfl rfl ?_
  refine j_msk [true, true, true, false] (jLX2_wearSplices_2 hq t0 h0 _ _ (fun s10 => ?_) _ _ _)
  refine j_aload_n dX2_wearSplices_81 rfl rfl ?_
  refine j_getR fl_RX2_12 (jo_o h0) rfl dX2_wearSplices_82 ?_
  refine j_getI fl_RX2_58 (sc_o (jo_0 h0)) rfl dX2_wearSplices_85 ?_
  exact j_iret hq dX2_wearSplices_88
abbrev rmX2_isOpen : Room := { frames := 2, cells := 0, slots := 0, locals := 43 }
theorem dX2_isOpen_0 : decode cX2_isOpen 0 = .ok (.aload_n 0, 1) := by decide +kernel
theorem dX2_isOpen_1 : decode cX2_isOpen 1 = .ok (.iload_n 1, 1) := by decide +kernel
theorem dX2_isOpen_2 : decode cX2_isOpen 2 = .ok (.invokevirtual 69, 3) := by decide +kernel
theorem dX2_isOpen_5 : decode cX2_isOpen 5 = .ok (.ifCond .eq 16, 3) := by decide +kernel
theorem dX2_isOpen_8 : decode cX2_isOpen 8 = .ok (.aload_n 0, 1) := by decide +kernel
theorem dX2_isOpen_9 : decode cX2_isOpen 9 = .ok (.getfield 38, 3) := by decide +kernel
theorem dX2_isOpen_12 : decode cX2_isOpen 12 = .ok (.iload_n 1, 1) := by decide +kernel
theorem dX2_isOpen_13 : decode cX2_isOpen 13 = .ok (.iaload, 1) := by decide +kernel
theorem dX2_isOpen_14 : decode cX2_isOpen 14 = .ok (.ifCond .ne 7, 3) := by decide +kernel
theorem dX2_isOpen_17 : decode cX2_isOpen 17 = .ok (.iconst 1, 1) := by decide +kernel
theorem dX2_isOpen_18 : decode cX2_isOpen 18 = .ok (.goto 4, 3) := by decide +kernel
theorem dX2_isOpen_21 : decode cX2_isOpen 21 = .ok (.iconst 0, 1) := by decide +kernel
theorem dX2_isOpen_22 : decode cX2_isOpen 22 = .ok (.ireturn, 1) := by decide +kernel
def fX2_isOpen (t0 : Nat) (a1 : Int) (s0 : Mem) : Option Res :=
 bnd (fX2_isSpliced t0 a1 s0) (fun r1 s2 =>
 (if r1 = 0 then
 zr 0 s2
 else
 rd (s2 (t0 + 18)) a1 15 (fun v3 =>
 (if v3 ≠ 0 then
 zr 0 s2
 else
 zr 1 s2))))
set_option maxRecDepth 100000 in
set_option maxHeartbeats 4000000 in
theorem mX2_isOpen (l : Launch) (D : va_G) (ad : Nat → Nat) (cA : Nat → ClassId) (t0 : Nat) (h0 : isJo t0) (a1 : Int) (s0 : Mem) : MCi l D ad cA yX2_isOpen cX2_isOpen 2 (some .boolean) rmX2_isOpen [.inr (.inr t0), .inl a1] s0 (fX2_isOpen t0 a1 s0) := by
  refine MCi_ofE (own := RX2) (ls := [some (.inr (.inr t0)), some (.inl a1)]) 0 (by decide +kernel) rfl rfl (fun _ => Nat.le_of_ble_eq_true rfl) (fun K hq => ?_)
  unfold fX2_isOpen
  refine j_aload_n dX2_isOpen_0 rfl rfl ?_
  refine j_iload_n dX2_isOpen_1 rfl rfl ?_
  refine j_callVi (mX2_isSpliced (kl K) (kD K) (kad K) (kcA K) t0 h0 a1 s0) cw_RX2_69 (jo_o h0) rfl ⟨rfl, rfl, by decide, by decide⟩ rfl rfl (Nat.le_of_ble_eq_true rfl) dX2_isOpen_2 (fun r1 s2 => ?_)
  refine j_if_eq (tgt := 21) dX2_isOpen_5 rfl ?_ ?_
  · refine j_iconst dX2_isOpen_21 (inr_d rfl) ?_
    exact j_zret hq dX2_isOpen_22
  · refine j_aload_n dX2_isOpen_8 rfl rfl ?_
    refine j_getR fl_RX2_38 (jo_o h0) rfl dX2_isOpen_9 ?_
    refine j_iload_n dX2_isOpen_12 rfl rfl ?_
    refine j_iald (jo_6 h0) dX2_isOpen_13 (fun v3 => ?_)
    refine j_if_ne (tgt := 21) dX2_isOpen_14 rfl ?_ ?_
    · refine j_iconst dX2_isOpen_21 (inr_d rfl) ?_
      exact j_zret hq dX2_isOpen_22
    · refine j_iconst dX2_isOpen_17 (inr_d rfl) ?_
      refine j_goto (tgt := 22) dX2_isOpen_18 rfl ?_
      exact j_zret hq dX2_isOpen_22
abbrev rmX2_countOpen : Room := { frames := 3, cells := 0, slots := 0, locals := 64 }
theorem dX2_countOpen_0 : decode cX2_countOpen 0 = .ok (.iconst 0, 1) := by decide +kernel
theorem dX2_countOpen_1 : decode cX2_countOpen 1 = .ok (.istore_n 1, 1) := by decide +kernel
theorem dX2_countOpen_2 : decode cX2_countOpen 2 = .ok (.iconst 0, 1) := by decide +kernel
theorem dX2_countOpen_3 : decode cX2_countOpen 3 = .ok (.istore_n 2, 1) := by decide +kernel
theorem dX2_countOpen_4 : decode cX2_countOpen 4 = .ok (.iload_n 2, 1) := by decide +kernel
theorem dX2_countOpen_5 : decode cX2_countOpen 5 = .ok (.iconst 1, 1) := by decide +kernel
theorem dX2_countOpen_6 : decode cX2_countOpen 6 = .ok (.iadd, 1) := by decide +kernel
theorem dX2_countOpen_7 : decode cX2_countOpen 7 = .ok (.aload_n 0, 1) := by decide +kernel
theorem dX2_countOpen_8 : decode cX2_countOpen 8 = .ok (.getfield 12, 3) := by decide +kernel
theorem dX2_countOpen_11 : decode cX2_countOpen 11 = .ok (.getfield 58, 3) := by decide +kernel
theorem dX2_countOpen_14 : decode cX2_countOpen 14 = .ok (.if_icmp .ge 20, 3) := by decide +kernel
theorem dX2_countOpen_17 : decode cX2_countOpen 17 = .ok (.aload_n 0, 1) := by decide +kernel
theorem dX2_countOpen_18 : decode cX2_countOpen 18 = .ok (.iload_n 2, 1) := by decide +kernel
theorem dX2_countOpen_19 : decode cX2_countOpen 19 = .ok (.invokevirtual 82, 3) := by decide +kernel
theorem dX2_countOpen_22 : decode cX2_countOpen 22 = .ok (.ifCond .eq 6, 3) := by decide +kernel
theorem dX2_countOpen_25 : decode cX2_countOpen 25 = .ok (.iinc 1 1, 3) := by decide +kernel
theorem dX2_countOpen_28 : decode cX2_countOpen 28 = .ok (.iinc 2 1, 3) := by decide +kernel
theorem dX2_countOpen_31 : decode cX2_countOpen 31 = .ok (.goto (-27), 3) := by decide +kernel
theorem dX2_countOpen_34 : decode cX2_countOpen 34 = .ok (.iload_n 1, 1) := by decide +kernel
theorem dX2_countOpen_35 : decode cX2_countOpen 35 = .ok (.ireturn, 1) := by decide +kernel
def LX2_countOpen_4 (t0 : Nat) (k34 : Int → Mem → Option Res) : Nat → Int → Int → Mem → Option Res
  | 0 => fun _ _ _ => none
  | n + 1 => fun x1 x2 s => (if s (t0 + 1) 0 ≤ wr (x2 + 1) then
 k34 x1 s
 else
 bnd (fX2_isOpen t0 x2 s) (fun r1 s2 =>
 (if r1 = 0 then
 LX2_countOpen_4 t0 k34 n x1 (wr (x2 + 1)) s2
 else
 LX2_countOpen_4 t0 k34 n (wr (x1 + 1)) (wr (x2 + 1)) s2)))
def fX2_countOpen (t0 : Nat) (s0 : Mem) : Option Res :=
 LX2_countOpen_4 t0 (fun y4 s3 =>
 some (y4, s3)) FU 0 0 s0
set_option maxRecDepth 100000 in
set_option maxHeartbeats 4000000 in
theorem jLX2_countOpen_4 {K : KT} (hq : KI K (some .int)) (t0 : Nat) (h0 : isJo t0) (k34 : Int → Mem → Option Res) (hk34 : ∀ (y1 : Int) (s : Mem), J K rmX2_countOpen cX2_countOpen RX2 3 34 [none, some (.inl y1), none] [] s (k34 y1 s)) : ∀ (n : Nat) (x1 : Int) (x2 : Int) (s : Mem), J K rmX2_countOpen cX2_countOpen RX2 3 4 [some (.inr (.inr t0)), some (.inl x1), some (.inl x2)] [] s (LX2_countOpen_4 t0 k34 n x1 x2 s) := by
  intro n
  induction n with
  | zero => intros; exact J_none
  | succ n ih =>
    intro x1 x2 s
    show J K _ _ _ _ _ _ _ _ (LX2_countOpen_4 t0 k34 (n + 1) x1 x2 s)
    simp only [LX2_countOpen_4]
    refine j_iload_n dX2_countOpen_4 rfl rfl ?_
    refine j_iconst dX2_countOpen_5 (inr_d rfl) ?_
    refine j_iadd dX2_countOpen_6 ?_
    refine j_aload_n dX2_countOpen_7 rfl rfl ?_
    refine j_getR fl_RX2_12 (jo_o h0) rfl dX2_countOpen_8 ?_
    refine j_getI fl_RX2_58 (sc_o (jo_0 h0)) rfl dX2_countOpen_11 ?_
    refine j_icmp_ge (tgt := 34) dX2_countOpen_14 rfl ?_ ?_
    · exact j_msk [false, true, false] (hk34 _ _)
    · refine j_aload_n dX2_countOpen_17 rfl rfl ?_
      refine j_iload_n dX2_countOpen_18 rfl rfl ?_
      refine j_callVi (mX2_isOpen (kl K) (kD K) (kad K) (kcA K) t0 h0 x2 s) cw_RX2_82 (jo_o h0) rfl ⟨rfl, rfl, by decide, by decide⟩ rfl rfl (Nat.le_of_ble_eq_true rfl) dX2_countOpen_19 (fun r1 s2 => ?_)
      refine j_if_eq (tgt := 28) dX2_countOpen_22 rfl ?_ ?_
      · refine j_iincE (ls2 := [some (.inr (.inr t0)), some (.inl x1), some (.inl (wr (x2 + 1)))]) dX2_countOpen_28 rfl (by decide) rfl rfl ?_
        refine j_goto (tgt := 4) dX2_countOpen_31 rfl ?_
        exact j_msk [true, true, true] (ih _ _ _)
      · refine j_iincE (ls2 := [some (.inr (.inr t0)), some (.inl (wr (x1 + 1))), some (.inl x2)]) dX2_countOpen_25 rfl (by decide) rfl rfl ?_
        refine j_iincE (ls2 := [some (.inr (.inr t0)), some (.inl (wr (x1 + 1))), some (.inl (wr (x2 + 1)))]) dX2_countOpen_28 rfl (by decide) rfl rfl ?_
        refine j_goto (tgt := 4) dX2_countOpen_31 rfl ?_
        exact j_msk [true, true, true] (ih _ _ _)
set_option maxRecDepth 100000 in
set_option maxHeartbeats 4000000 in
theorem mX2_countOpen (l : Launch) (D : va_G) (ad : Nat → Nat) (cA : Nat → ClassId) (t0 : Nat) (h0 : isJo t0) (s0 : Mem) : MCi l D ad cA yX2_countOpen cX2_countOpen 3 (some .int) rmX2_countOpen [.inr (.inr t0)] s0 (fX2_countOpen t0 s0) := by
  refine MCi_ofE (own := RX2) (ls := [some (.inr (.inr t0)), none, none]) 2 (by decide +kernel) rfl rfl (fun _ => Nat.le_of_ble_eq_true rfl) (fun K hq => ?_)
  unfold fX2_countOpen
  refine j_iconst dX2_countOpen_0 (inr_d rfl) ?_
  refine j_istore_nE (ls2 := [some (.inr (.inr t0)), some (.inl 0), none]) dX2_countOpen_1 rfl (by decide) rfl rfl ?_
  refine j_iconst dX2_countOpen_2 (inr_d rfl) ?_
  refine j_istore_nE (ls2 := [some (.inr (.inr t0)), some (.inl 0), some (.inl 0)]) dX2_countOpen_3 rfl (by decide) rfl rfl ?_
  refine j_msk [true, true, true] (jLX2_countOpen_4 hq t0 h0 _ (fun y4 s3 => ?_) _ _ _ _)
  refine j_iload_n dX2_countOpen_34 rfl rfl ?_
  exact j_iret hq dX2_countOpen_35
abbrev rmX2_mendOpen : Room := { frames := 4, cells := 0, slots := 0, locals := 86 }
theorem dX2_mendOpen_0 : decode cX2_mendOpen 0 = .ok (.aload_n 0, 1) := by decide +kernel
theorem dX2_mendOpen_1 : decode cX2_mendOpen 1 = .ok (.invokevirtual 85, 3) := by decide +kernel
theorem dX2_mendOpen_4 : decode cX2_mendOpen 4 = .ok (.istore_n 1, 1) := by decide +kernel
theorem dX2_mendOpen_5 : decode cX2_mendOpen 5 = .ok (.iconst 0, 1) := by decide +kernel
theorem dX2_mendOpen_6 : decode cX2_mendOpen 6 = .ok (.istore_n 2, 1) := by decide +kernel
theorem dX2_mendOpen_7 : decode cX2_mendOpen 7 = .ok (.iload_n 2, 1) := by decide +kernel
theorem dX2_mendOpen_8 : decode cX2_mendOpen 8 = .ok (.iconst 1, 1) := by decide +kernel
theorem dX2_mendOpen_9 : decode cX2_mendOpen 9 = .ok (.iadd, 1) := by decide +kernel
theorem dX2_mendOpen_10 : decode cX2_mendOpen 10 = .ok (.aload_n 0, 1) := by decide +kernel
theorem dX2_mendOpen_11 : decode cX2_mendOpen 11 = .ok (.getfield 12, 3) := by decide +kernel
theorem dX2_mendOpen_14 : decode cX2_mendOpen 14 = .ok (.getfield 58, 3) := by decide +kernel
theorem dX2_mendOpen_17 : decode cX2_mendOpen 17 = .ok (.if_icmp .ge 25, 3) := by decide +kernel
theorem dX2_mendOpen_20 : decode cX2_mendOpen 20 = .ok (.aload_n 0, 1) := by decide +kernel
theorem dX2_mendOpen_21 : decode cX2_mendOpen 21 = .ok (.iload_n 2, 1) := by decide +kernel
theorem dX2_mendOpen_22 : decode cX2_mendOpen 22 = .ok (.invokevirtual 82, 3) := by decide +kernel
theorem dX2_mendOpen_25 : decode cX2_mendOpen 25 = .ok (.ifCond .eq 11, 3) := by decide +kernel
theorem dX2_mendOpen_28 : decode cX2_mendOpen 28 = .ok (.aload_n 0, 1) := by decide +kernel
theorem dX2_mendOpen_29 : decode cX2_mendOpen 29 = .ok (.getfield 38, 3) := by decide +kernel
theorem dX2_mendOpen_32 : decode cX2_mendOpen 32 = .ok (.iload_n 2, 1) := by decide +kernel
theorem dX2_mendOpen_33 : decode cX2_mendOpen 33 = .ok (.bipush 80, 2) := by decide +kernel
theorem dX2_mendOpen_35 : decode cX2_mendOpen 35 = .ok (.iastore, 1) := by decide +kernel
theorem dX2_mendOpen_36 : decode cX2_mendOpen 36 = .ok (.iinc 2 1, 3) := by decide +kernel
theorem dX2_mendOpen_39 : decode cX2_mendOpen 39 = .ok (.goto (-32), 3) := by decide +kernel
theorem dX2_mendOpen_42 : decode cX2_mendOpen 42 = .ok (.iload_n 1, 1) := by decide +kernel
theorem dX2_mendOpen_43 : decode cX2_mendOpen 43 = .ok (.ireturn, 1) := by decide +kernel
def LX2_mendOpen_7 (t0 : Nat) (c1 : Int) (k42 : Mem → Option Res) : Nat → Int → Mem → Option Res
  | 0 => fun _ _ => none
  | n + 1 => fun x2 s => (if s (t0 + 1) 0 ≤ wr (x2 + 1) then
 k42 s
 else
 bnd (fX2_isOpen t0 x2 s) (fun r3 s4 =>
 (if r3 = 0 then
 LX2_mendOpen_7 t0 c1 k42 n (wr (x2 + 1)) s4
 else
 ST s4 (t0 + 18) x2 15 80 (fun s5 =>
 LX2_mendOpen_7 t0 c1 k42 n (wr (x2 + 1)) s5))))
def fX2_mendOpen (t0 : Nat) (s0 : Mem) : Option Res :=
 bnd (fX2_countOpen t0 s0) (fun r1 s2 =>
 LX2_mendOpen_7 t0 r1 (fun s6 =>
 some (r1, s6)) FU 0 s2)
set_option maxRecDepth 100000 in
set_option maxHeartbeats 4000000 in
theorem jLX2_mendOpen_7 {K : KT} (hq : KI K (some .int)) (t0 : Nat) (h0 : isJo t0) (c1 : Int) (k42 : Mem → Option Res) (hk42 : ∀ (s : Mem), J K rmX2_mendOpen cX2_mendOpen RX2 3 42 [none, some (.inl c1), none] [] s (k42 s)) : ∀ (n : Nat) (x2 : Int) (s : Mem), J K rmX2_mendOpen cX2_mendOpen RX2 3 7 [some (.inr (.inr t0)), some (.inl c1), some (.inl x2)] [] s (LX2_mendOpen_7 t0 c1 k42 n x2 s) := by
  intro n
  induction n with
  | zero => intros; exact J_none
  | succ n ih =>
    intro x2 s
    show J K _ _ _ _ _ _ _ _ (LX2_mendOpen_7 t0 c1 k42 (n + 1) x2 s)
    simp only [LX2_mendOpen_7]
    refine j_iload_n dX2_mendOpen_7 rfl rfl ?_
    refine j_iconst dX2_mendOpen_8 (inr_d rfl) ?_
    refine j_iadd dX2_mendOpen_9 ?_
    refine j_aload_n dX2_mendOpen_10 rfl rfl ?_
    refine j_getR fl_RX2_12 (jo_o h0) rfl dX2_mendOpen_11 ?_
    refine j_getI fl_RX2_58 (sc_o (jo_0 h0)) rfl dX2_mendOpen_14 ?_
    refine j_icmp_ge (tgt := 42) dX2_mendOpen_17 rfl ?_ ?_
    · exact j_msk [false, true, false] (hk42 _)
    · refine j_aload_n dX2_mendOpen_20 rfl rfl ?_
      refine j_iload_n dX2_mendOpen_21 rfl rfl ?_
      refine j_callVi (mX2_isOpen (kl K) (kD K) (kad K) (kcA K) t0 h0 x2 s) cw_RX2_82 (jo_o h0) rfl ⟨rfl, rfl, by decide, by decide⟩ rfl rfl (Nat.le_of_ble_eq_true rfl) dX2_mendOpen_22 (fun r3 s4 => ?_)
      refine j_if_eq (tgt := 36) dX2_mendOpen_25 rfl ?_ ?_
      · refine j_iincE (ls2 := [some (.inr (.inr t0)), some (.inl c1), some (.inl (wr (x2 + 1)))]) dX2_mendOpen_36 rfl (by decide) rfl rfl ?_
        refine j_goto (tgt := 7) dX2_mendOpen_39 rfl ?_
        exact j_msk [true, true, true] (ih _ _)
      · refine j_aload_n dX2_mendOpen_28 rfl rfl ?_
        refine j_getR fl_RX2_38 (jo_o h0) rfl dX2_mendOpen_29 ?_
        refine j_iload_n dX2_mendOpen_32 rfl rfl ?_
        refine j_bipush (v := 80) dX2_mendOpen_33 (by decide +kernel) (inr_d rfl) ?_
        refine j_iast (jo_6 h0) dX2_mendOpen_35 (fun s5 => ?_)
        refine j_iincE (ls2 := [some (.inr (.inr t0)), some (.inl c1), some (.inl (wr (x2 + 1)))]) dX2_mendOpen_36 rfl (by decide) rfl rfl ?_
        refine j_goto (tgt := 7) dX2_mendOpen_39 rfl ?_
        exact j_msk [true, true, true] (ih _ _)
set_option maxRecDepth 100000 in
set_option maxHeartbeats 4000000 in
theorem mX2_mendOpen (l : Launch) (D : va_G) (ad : Nat → Nat) (cA : Nat → ClassId) (t0 : Nat) (h0 : isJo t0) (s0 : Mem) : MCi l D ad cA yX2_mendOpen cX2_mendOpen 3 (some .int) rmX2_mendOpen [.inr (.inr t0)] s0 (fX2_mendOpen t0 s0) := by
  refine MCi_ofE (own := RX2) (ls := [some (.inr (.inr t0)), none, none]) 2 (by decide +kernel) rfl rfl (fun _ => Nat.le_of_ble_eq_true rfl) (fun K hq => ?_)
  unfold fX2_mendOpen
  refine j_aload_n dX2_mendOpen_0 rfl rfl ?_
  refine j_callVi (mX2_countOpen (kl K) (kD K) (kad K) (kcA K) t0 h0 s0) cw_RX2_85 (jo_o h0) rfl ⟨rfl, rfl, by decide, by decide⟩ rfl rfl (Nat.le_of_ble_eq_true rfl) dX2_mendOpen_1 (fun r1 s2 => ?_)
  refine j_istore_nE (ls2 := [some (.inr (.inr t0)), some (.inl r1), none]) dX2_mendOpen_4 rfl (by decide) rfl rfl ?_
  refine j_iconst dX2_mendOpen_5 (inr_d rfl) ?_
  refine j_istore_nE (ls2 := [some (.inr (.inr t0)), some (.inl r1), some (.inl 0)]) dX2_mendOpen_6 rfl (by decide) rfl rfl ?_
  refine j_msk [true, true, true] (jLX2_mendOpen_7 hq t0 h0 _ _ (fun s6 => ?_) _ _ _)
  refine j_iload_n dX2_mendOpen_42 rfl rfl ?_
  exact j_iret hq dX2_mendOpen_43
abbrev rmX5_copyFrom : Room := { frames := 2, cells := 0, slots := 0, locals := 81 }
theorem dX5_copyFrom_0 : decode cX5_copyFrom 0 = .ok (.aload_n 1, 1) := by decide +kernel
theorem dX5_copyFrom_1 : decode cX5_copyFrom 1 = .ok (.getfield 9, 3) := by decide +kernel
theorem dX5_copyFrom_4 : decode cX5_copyFrom 4 = .ok (.aload_n 0, 1) := by decide +kernel
theorem dX5_copyFrom_5 : decode cX5_copyFrom 5 = .ok (.getfield 9, 3) := by decide +kernel
theorem dX5_copyFrom_8 : decode cX5_copyFrom 8 = .ok (.invokestatic 22, 3) := by decide +kernel
theorem dX5_copyFrom_11 : decode cX5_copyFrom 11 = .ok (.aload_n 1, 1) := by decide +kernel
theorem dX5_copyFrom_12 : decode cX5_copyFrom 12 = .ok (.getfield 15, 3) := by decide +kernel
theorem dX5_copyFrom_15 : decode cX5_copyFrom 15 = .ok (.aload_n 0, 1) := by decide +kernel
theorem dX5_copyFrom_16 : decode cX5_copyFrom 16 = .ok (.getfield 15, 3) := by decide +kernel
theorem dX5_copyFrom_19 : decode cX5_copyFrom 19 = .ok (.invokestatic 22, 3) := by decide +kernel
theorem dX5_copyFrom_22 : decode cX5_copyFrom 22 = .ok (.iconst 0, 1) := by decide +kernel
theorem dX5_copyFrom_23 : decode cX5_copyFrom 23 = .ok (.istore_n 2, 1) := by decide +kernel
theorem dX5_copyFrom_24 : decode cX5_copyFrom 24 = .ok (.iload_n 2, 1) := by decide +kernel
theorem dX5_copyFrom_25 : decode cX5_copyFrom 25 = .ok (.bipush 8, 2) := by decide +kernel
theorem dX5_copyFrom_27 : decode cX5_copyFrom 27 = .ok (.if_icmp .ge 21, 3) := by decide +kernel
theorem dX5_copyFrom_30 : decode cX5_copyFrom 30 = .ok (.aload_n 0, 1) := by decide +kernel
theorem dX5_copyFrom_31 : decode cX5_copyFrom 31 = .ok (.getfield 18, 3) := by decide +kernel
theorem dX5_copyFrom_34 : decode cX5_copyFrom 34 = .ok (.iload_n 2, 1) := by decide +kernel
theorem dX5_copyFrom_35 : decode cX5_copyFrom 35 = .ok (.aload_n 1, 1) := by decide +kernel
theorem dX5_copyFrom_36 : decode cX5_copyFrom 36 = .ok (.getfield 18, 3) := by decide +kernel
theorem dX5_copyFrom_39 : decode cX5_copyFrom 39 = .ok (.iload_n 2, 1) := by decide +kernel
theorem dX5_copyFrom_40 : decode cX5_copyFrom 40 = .ok (.baload, 1) := by decide +kernel
theorem dX5_copyFrom_41 : decode cX5_copyFrom 41 = .ok (.bastore, 1) := by decide +kernel
theorem dX5_copyFrom_42 : decode cX5_copyFrom 42 = .ok (.iinc 2 1, 3) := by decide +kernel
theorem dX5_copyFrom_45 : decode cX5_copyFrom 45 = .ok (.goto (-21), 3) := by decide +kernel
theorem dX5_copyFrom_48 : decode cX5_copyFrom 48 = .ok (.return_, 1) := by decide +kernel
def LX5_copyFrom_24 (t0 : Nat) (t1 : Nat) (k48 : Mem → Option Res) : Nat → Int → Mem → Option Res
  | 0 => fun _ _ => none
  | n + 1 => fun x2 s => (if 8 ≤ x2 then
 k48 s
 else
 rd (s (t1 + 3)) x2 8 (fun v5 =>
 zp v5 (ST s (t0 + 3) x2 8 v5 (fun s6 =>
 LX5_copyFrom_24 t0 t1 k48 n (wr (x2 + 1)) s6))))
def fX5_copyFrom (t0 : Nat) (t1 : Nat) (s0 : Mem) : Option Res :=
 bnd (fX10_copy (t1 + 1) 8 (t0 + 1) 8 s0) (fun _ s2 =>
 bnd (fX10_copy (t1 + 2) 8 (t0 + 2) 8 s2) (fun _ s4 =>
 LX5_copyFrom_24 t0 t1 (fun s7 =>
 some (0, s7)) FU 0 s4))
set_option maxRecDepth 100000 in
set_option maxHeartbeats 4000000 in
theorem jLX5_copyFrom_24 {K : KT} (hq : KV K none) (t0 : Nat) (h0 : isRe t0) (t1 : Nat) (h1 : isRe t1) (k48 : Mem → Option Res) (hk48 : ∀ (s : Mem), J K rmX5_copyFrom cX5_copyFrom RX5 3 48 [none, none, none] [] s (k48 s)) : ∀ (n : Nat) (x2 : Int) (s : Mem), J K rmX5_copyFrom cX5_copyFrom RX5 3 24 [some (.inr (.inr t0)), some (.inr (.inr t1)), some (.inl x2)] [] s (LX5_copyFrom_24 t0 t1 k48 n x2 s) := by
  intro n
  induction n with
  | zero => intros; exact J_none
  | succ n ih =>
    intro x2 s
    show J K _ _ _ _ _ _ _ _ (LX5_copyFrom_24 t0 t1 k48 (n + 1) x2 s)
    simp only [LX5_copyFrom_24]
    refine j_iload_n dX5_copyFrom_24 rfl rfl ?_
    refine j_bipush (v := 8) dX5_copyFrom_25 (by decide +kernel) (inr_d rfl) ?_
    refine j_icmp_ge (tgt := 48) dX5_copyFrom_27 rfl ?_ ?_
    · exact j_msk [false, false, false] (hk48 _)
    · refine j_aload_n dX5_copyFrom_30 rfl rfl ?_
      refine j_getR fl_RX5_18 (re_o h0) rfl dX5_copyFrom_31 ?_
      refine j_iload_n dX5_copyFrom_34 rfl rfl ?_
      refine j_aload_n dX5_copyFrom_35 rfl rfl ?_
      refine j_getR fl_RX5_18 (re_o h1) rfl dX5_copyFrom_36 ?_
      refine j_iload_n dX5_copyFrom_39 rfl rfl ?_
      refine j_zald (re_2 h1) dX5_copyFrom_40 (fun v5 => ?_)
      refine j_zast (re_2 h0) dX5_copyFrom_41 (fun s6 => ?_)
      refine j_iincE (ls2 := [some (.inr (.inr t0)), some (.inr (.inr t1)), some (.inl (wr (x2 + 1)))]) dX5_copyFrom_42 rfl (by decide) rfl rfl ?_
      refine j_goto (tgt := 24) dX5_copyFrom_45 rfl ?_
      exact j_msk [true, true, true] (ih _ _)
set_option maxRecDepth 100000 in
set_option maxHeartbeats 4000000 in
theorem mX5_copyFrom (l : Launch) (D : va_G) (ad : Nat → Nat) (cA : Nat → ClassId) (t0 : Nat) (h0 : isRe t0) (t1 : Nat) (h1 : isRe t1) (s0 : Mem) : MCv l D ad cA yX5_copyFrom cX5_copyFrom 3 none rmX5_copyFrom [.inr (.inr t0), .inr (.inr t1)] s0 (fX5_copyFrom t0 t1 s0) := by
  refine MCv_ofE (own := RX5) (ls := [some (.inr (.inr t0)), some (.inr (.inr t1)), none]) 1 (by decide +kernel) rfl rfl (fun _ => Nat.le_of_ble_eq_true rfl) (fun K hq => ?_)
  unfold fX5_copyFrom
  refine j_aload_n dX5_copyFrom_0 rfl rfl ?_
  refine j_getR fl_RX5_9 (re_o h1) rfl dX5_copyFrom_1 ?_
  refine j_aload_n dX5_copyFrom_4 rfl rfl ?_
  refine j_getR fl_RX5_9 (re_o h0) rfl dX5_copyFrom_5 ?_
  refine j_callNv (mX10_copy (kl K) (kD K) (kad K) (kcA K) (t1 + 1) 8 (re_0 h1) (by decide) (t0 + 1) 8 (re_0 h0) (by decide) s0) cw_RX5_22 ⟨rfl, rfl, by decide, by decide⟩ rfl rfl (Nat.le_of_ble_eq_true rfl) dX5_copyFrom_8 (fun _ s2 => ?_)
  refine j_aload_n dX5_copyFrom_11 rfl rfl ?_
  refine j_getR fl_RX5_15 (re_o h1) rfl dX5_copyFrom_12 ?_
  refine j_aload_n dX5_copyFrom_15 rfl rfl ?_
  refine j_getR fl_RX5_15 (re_o h0) rfl dX5_copyFrom_16 ?_
  refine j_callNv (mX10_copy (kl K) (kD K) (kad K) (kcA K) (t1 + 2) 8 (re_1 h1) (by decide) (t0 + 2) 8 (re_1 h0) (by decide) s2) cw_RX5_22 ⟨rfl, rfl, by decide, by decide⟩ rfl rfl (Nat.le_of_ble_eq_true rfl) dX5_copyFrom_19 (fun _ s4 => ?_)
  refine j_iconst dX5_copyFrom_22 (inr_d rfl) ?_
  refine j_istore_nE (ls2 := [some (.inr (.inr t0)), some (.inr (.inr t1)), some (.inl 0)]) dX5_copyFrom_23 rfl (by decide) rfl rfl ?_
  refine j_msk [true, true, true] (jLX5_copyFrom_24 hq t0 h0 t1 h1 _ (fun s7 => ?_) _ _ _)
  exact j_vret hq dX5_copyFrom_48
abbrev rmX2_copyFrom : Room := { frames := 3, cells := 0, slots := 0, locals := 103 }
theorem dX2_copyFrom_0 : decode cX2_copyFrom 0 = .ok (.aload_n 0, 1) := by decide +kernel
theorem dX2_copyFrom_1 : decode cX2_copyFrom 1 = .ok (.getfield 12, 3) := by decide +kernel
theorem dX2_copyFrom_4 : decode cX2_copyFrom 4 = .ok (.aload_n 1, 1) := by decide +kernel
theorem dX2_copyFrom_5 : decode cX2_copyFrom 5 = .ok (.getfield 12, 3) := by decide +kernel
theorem dX2_copyFrom_8 : decode cX2_copyFrom 8 = .ok (.invokevirtual 47, 3) := by decide +kernel
theorem dX2_copyFrom_11 : decode cX2_copyFrom 11 = .ok (.aload_n 1, 1) := by decide +kernel
theorem dX2_copyFrom_12 : decode cX2_copyFrom 12 = .ok (.getfield 18, 3) := by decide +kernel
theorem dX2_copyFrom_15 : decode cX2_copyFrom 15 = .ok (.aload_n 0, 1) := by decide +kernel
theorem dX2_copyFrom_16 : decode cX2_copyFrom 16 = .ok (.getfield 18, 3) := by decide +kernel
theorem dX2_copyFrom_19 : decode cX2_copyFrom 19 = .ok (.invokestatic 89, 3) := by decide +kernel
theorem dX2_copyFrom_22 : decode cX2_copyFrom 22 = .ok (.aload_n 1, 1) := by decide +kernel
theorem dX2_copyFrom_23 : decode cX2_copyFrom 23 = .ok (.getfield 22, 3) := by decide +kernel
theorem dX2_copyFrom_26 : decode cX2_copyFrom 26 = .ok (.aload_n 0, 1) := by decide +kernel
theorem dX2_copyFrom_27 : decode cX2_copyFrom 27 = .ok (.getfield 22, 3) := by decide +kernel
theorem dX2_copyFrom_30 : decode cX2_copyFrom 30 = .ok (.invokestatic 89, 3) := by decide +kernel
theorem dX2_copyFrom_33 : decode cX2_copyFrom 33 = .ok (.aload_n 1, 1) := by decide +kernel
theorem dX2_copyFrom_34 : decode cX2_copyFrom 34 = .ok (.getfield 25, 3) := by decide +kernel
theorem dX2_copyFrom_37 : decode cX2_copyFrom 37 = .ok (.aload_n 0, 1) := by decide +kernel
theorem dX2_copyFrom_38 : decode cX2_copyFrom 38 = .ok (.getfield 25, 3) := by decide +kernel
theorem dX2_copyFrom_41 : decode cX2_copyFrom 41 = .ok (.invokestatic 89, 3) := by decide +kernel
theorem dX2_copyFrom_44 : decode cX2_copyFrom 44 = .ok (.aload_n 1, 1) := by decide +kernel
theorem dX2_copyFrom_45 : decode cX2_copyFrom 45 = .ok (.getfield 28, 3) := by decide +kernel
theorem dX2_copyFrom_48 : decode cX2_copyFrom 48 = .ok (.aload_n 0, 1) := by decide +kernel
theorem dX2_copyFrom_49 : decode cX2_copyFrom 49 = .ok (.getfield 28, 3) := by decide +kernel
theorem dX2_copyFrom_52 : decode cX2_copyFrom 52 = .ok (.invokestatic 89, 3) := by decide +kernel
theorem dX2_copyFrom_55 : decode cX2_copyFrom 55 = .ok (.aload_n 0, 1) := by decide +kernel
theorem dX2_copyFrom_56 : decode cX2_copyFrom 56 = .ok (.getfield 34, 3) := by decide +kernel
theorem dX2_copyFrom_59 : decode cX2_copyFrom 59 = .ok (.aload_n 1, 1) := by decide +kernel
theorem dX2_copyFrom_60 : decode cX2_copyFrom 60 = .ok (.getfield 34, 3) := by decide +kernel
theorem dX2_copyFrom_63 : decode cX2_copyFrom 63 = .ok (.invokevirtual 93, 3) := by decide +kernel
theorem dX2_copyFrom_66 : decode cX2_copyFrom 66 = .ok (.aload_n 1, 1) := by decide +kernel
theorem dX2_copyFrom_67 : decode cX2_copyFrom 67 = .ok (.getfield 38, 3) := by decide +kernel
theorem dX2_copyFrom_70 : decode cX2_copyFrom 70 = .ok (.aload_n 0, 1) := by decide +kernel
theorem dX2_copyFrom_71 : decode cX2_copyFrom 71 = .ok (.getfield 38, 3) := by decide +kernel
theorem dX2_copyFrom_74 : decode cX2_copyFrom 74 = .ok (.invokestatic 89, 3) := by decide +kernel
theorem dX2_copyFrom_77 : decode cX2_copyFrom 77 = .ok (.return_, 1) := by decide +kernel
def fX2_copyFrom (t0 : Nat) (t1 : Nat) (s0 : Mem) : Option Res :=
 bnd (fX6_copyFrom (t0 + 1) (t1 + 1) s0) (fun _ s2 =>
 bnd (fX10_copy (t1 + 10) 48 (t0 + 10) 48 s2) (fun _ s4 =>
 bnd (fX10_copy (t1 + 11) 48 (t0 + 11) 48 s4) (fun _ s6 =>
 bnd (fX10_copy (t1 + 12) 16 (t0 + 12) 16 s6) (fun _ s8 =>
 bnd (fX10_copy (t1 + 13) 16 (t0 + 13) 16 s8) (fun _ s10 =>
 bnd (fX5_copyFrom (t0 + 14) (t1 + 14) s10) (fun _ s12 =>
 bnd (fX10_copy (t1 + 18) 15 (t0 + 18) 15 s12) (fun _ s14 =>
 some (0, s14))))))))
set_option maxRecDepth 100000 in
set_option maxHeartbeats 4000000 in
theorem mX2_copyFrom (l : Launch) (D : va_G) (ad : Nat → Nat) (cA : Nat → ClassId) (t0 : Nat) (h0 : isJo t0) (t1 : Nat) (h1 : isJo t1) (s0 : Mem) : MCv l D ad cA yX2_copyFrom cX2_copyFrom 2 none rmX2_copyFrom [.inr (.inr t0), .inr (.inr t1)] s0 (fX2_copyFrom t0 t1 s0) := by
  refine MCv_ofE (own := RX2) (ls := [some (.inr (.inr t0)), some (.inr (.inr t1))]) 0 (by decide +kernel) rfl rfl (fun _ => Nat.le_of_ble_eq_true rfl) (fun K hq => ?_)
  unfold fX2_copyFrom
  refine j_aload_n dX2_copyFrom_0 rfl rfl ?_
  refine j_getR fl_RX2_12 (jo_o h0) rfl dX2_copyFrom_1 ?_
  refine j_aload_n dX2_copyFrom_4 rfl rfl ?_
  refine j_getR fl_RX2_12 (jo_o h1) rfl dX2_copyFrom_5 ?_
  refine j_callVv (mX6_copyFrom (kl K) (kD K) (kad K) (kcA K) (t0 + 1) (jo_0 h0) (t1 + 1) (jo_0 h1) s0) cw_RX2_47 (sc_o (jo_0 h0)) rfl ⟨rfl, rfl, by decide, by decide⟩ rfl rfl (Nat.le_of_ble_eq_true rfl) dX2_copyFrom_8 (fun _ s2 => ?_)
  refine j_aload_n dX2_copyFrom_11 rfl rfl ?_
  refine j_getR fl_RX2_18 (jo_o h1) rfl dX2_copyFrom_12 ?_
  refine j_aload_n dX2_copyFrom_15 rfl rfl ?_
  refine j_getR fl_RX2_18 (jo_o h0) rfl dX2_copyFrom_16 ?_
  refine j_callNv (mX10_copy (kl K) (kD K) (kad K) (kcA K) (t1 + 10) 48 (jo_1 h1) (by decide) (t0 + 10) 48 (jo_1 h0) (by decide) s2) cw_RX2_89 ⟨rfl, rfl, by decide, by decide⟩ rfl rfl (Nat.le_of_ble_eq_true rfl) dX2_copyFrom_19 (fun _ s4 => ?_)
  refine j_aload_n dX2_copyFrom_22 rfl rfl ?_
  refine j_getR fl_RX2_22 (jo_o h1) rfl dX2_copyFrom_23 ?_
  refine j_aload_n dX2_copyFrom_26 rfl rfl ?_
  refine j_getR fl_RX2_22 (jo_o h0) rfl dX2_copyFrom_27 ?_
  refine j_callNv (mX10_copy (kl K) (kD K) (kad K) (kcA K) (t1 + 11) 48 (jo_2 h1) (by decide) (t0 + 11) 48 (jo_2 h0) (by decide) s4) cw_RX2_89 ⟨rfl, rfl, by decide, by decide⟩ rfl rfl (Nat.le_of_ble_eq_true rfl) dX2_copyFrom_30 (fun _ s6 => ?_)
  refine j_aload_n dX2_copyFrom_33 rfl rfl ?_
  refine j_getR fl_RX2_25 (jo_o h1) rfl dX2_copyFrom_34 ?_
  refine j_aload_n dX2_copyFrom_37 rfl rfl ?_
  refine j_getR fl_RX2_25 (jo_o h0) rfl dX2_copyFrom_38 ?_
  refine j_callNv (mX10_copy (kl K) (kD K) (kad K) (kcA K) (t1 + 12) 16 (jo_3 h1) (by decide) (t0 + 12) 16 (jo_3 h0) (by decide) s6) cw_RX2_89 ⟨rfl, rfl, by decide, by decide⟩ rfl rfl (Nat.le_of_ble_eq_true rfl) dX2_copyFrom_41 (fun _ s8 => ?_)
  refine j_aload_n dX2_copyFrom_44 rfl rfl ?_
  refine j_getR fl_RX2_28 (jo_o h1) rfl dX2_copyFrom_45 ?_
  refine j_aload_n dX2_copyFrom_48 rfl rfl ?_
  refine j_getR fl_RX2_28 (jo_o h0) rfl dX2_copyFrom_49 ?_
  refine j_callNv (mX10_copy (kl K) (kD K) (kad K) (kcA K) (t1 + 13) 16 (jo_4 h1) (by decide) (t0 + 13) 16 (jo_4 h0) (by decide) s8) cw_RX2_89 ⟨rfl, rfl, by decide, by decide⟩ rfl rfl (Nat.le_of_ble_eq_true rfl) dX2_copyFrom_52 (fun _ s10 => ?_)
  refine j_aload_n dX2_copyFrom_55 rfl rfl ?_
  refine j_getR fl_RX2_34 (jo_o h0) rfl dX2_copyFrom_56 ?_
  refine j_aload_n dX2_copyFrom_59 rfl rfl ?_
  refine j_getR fl_RX2_34 (jo_o h1) rfl dX2_copyFrom_60 ?_
  refine j_callVv (mX5_copyFrom (kl K) (kD K) (kad K) (kcA K) (t0 + 14) (jo_5 h0) (t1 + 14) (jo_5 h1) s10) cw_RX2_93 (re_o (jo_5 h0)) rfl ⟨rfl, rfl, by decide, by decide⟩ rfl rfl (Nat.le_of_ble_eq_true rfl) dX2_copyFrom_63 (fun _ s12 => ?_)
  refine j_aload_n dX2_copyFrom_66 rfl rfl ?_
  refine j_getR fl_RX2_38 (jo_o h1) rfl dX2_copyFrom_67 ?_
  refine j_aload_n dX2_copyFrom_70 rfl rfl ?_
  refine j_getR fl_RX2_38 (jo_o h0) rfl dX2_copyFrom_71 ?_
  refine j_callNv (mX10_copy (kl K) (kD K) (kad K) (kcA K) (t1 + 18) 15 (jo_6 h1) (by decide) (t0 + 18) 15 (jo_6 h0) (by decide) s12) cw_RX2_89 ⟨rfl, rfl, by decide, by decide⟩ rfl rfl (Nat.le_of_ble_eq_true rfl) dX2_copyFrom_74 (fun _ s14 => ?_)
  exact j_vret hq dX2_copyFrom_77
abbrev rmX3_add : Room := { frames := 0, cells := 0, slots := 0, locals := 0 }
theorem dX3_add_0 : decode cX3_add 0 = .ok (.aload_n 0, 1) := by decide +kernel
theorem dX3_add_1 : decode cX3_add 1 = .ok (.getfield 22, 3) := by decide +kernel
theorem dX3_add_4 : decode cX3_add 4 = .ok (.bipush 8, 2) := by decide +kernel
theorem dX3_add_6 : decode cX3_add 6 = .ok (.if_icmp .lt 5, 3) := by decide +kernel
theorem dX3_add_9 : decode cX3_add 9 = .ok (.iconst 0, 1) := by decide +kernel
theorem dX3_add_10 : decode cX3_add 10 = .ok (.ireturn, 1) := by decide +kernel
theorem dX3_add_11 : decode cX3_add 11 = .ok (.aload_n 0, 1) := by decide +kernel
theorem dX3_add_12 : decode cX3_add 12 = .ok (.getfield 9, 3) := by decide +kernel
theorem dX3_add_15 : decode cX3_add 15 = .ok (.aload_n 0, 1) := by decide +kernel
theorem dX3_add_16 : decode cX3_add 16 = .ok (.getfield 22, 3) := by decide +kernel
theorem dX3_add_19 : decode cX3_add 19 = .ok (.iload_n 1, 1) := by decide +kernel
theorem dX3_add_20 : decode cX3_add 20 = .ok (.iastore, 1) := by decide +kernel
theorem dX3_add_21 : decode cX3_add 21 = .ok (.aload_n 0, 1) := by decide +kernel
theorem dX3_add_22 : decode cX3_add 22 = .ok (.getfield 13, 3) := by decide +kernel
theorem dX3_add_25 : decode cX3_add 25 = .ok (.aload_n 0, 1) := by decide +kernel
theorem dX3_add_26 : decode cX3_add 26 = .ok (.getfield 22, 3) := by decide +kernel
theorem dX3_add_29 : decode cX3_add 29 = .ok (.iload_n 2, 1) := by decide +kernel
theorem dX3_add_30 : decode cX3_add 30 = .ok (.iastore, 1) := by decide +kernel
theorem dX3_add_31 : decode cX3_add 31 = .ok (.aload_n 0, 1) := by decide +kernel
theorem dX3_add_32 : decode cX3_add 32 = .ok (.getfield 16, 3) := by decide +kernel
theorem dX3_add_35 : decode cX3_add 35 = .ok (.aload_n 0, 1) := by decide +kernel
theorem dX3_add_36 : decode cX3_add 36 = .ok (.getfield 22, 3) := by decide +kernel
theorem dX3_add_39 : decode cX3_add 39 = .ok (.iload_n 3, 1) := by decide +kernel
theorem dX3_add_40 : decode cX3_add 40 = .ok (.iastore, 1) := by decide +kernel
theorem dX3_add_41 : decode cX3_add 41 = .ok (.aload_n 0, 1) := by decide +kernel
theorem dX3_add_42 : decode cX3_add 42 = .ok (.getfield 19, 3) := by decide +kernel
theorem dX3_add_45 : decode cX3_add 45 = .ok (.aload_n 0, 1) := by decide +kernel
theorem dX3_add_46 : decode cX3_add 46 = .ok (.getfield 22, 3) := by decide +kernel
theorem dX3_add_49 : decode cX3_add 49 = .ok (.iload 4, 2) := by decide +kernel
theorem dX3_add_51 : decode cX3_add 51 = .ok (.iastore, 1) := by decide +kernel
theorem dX3_add_52 : decode cX3_add 52 = .ok (.aload_n 0, 1) := by decide +kernel
theorem dX3_add_53 : decode cX3_add 53 = .ok (.dup, 1) := by decide +kernel
theorem dX3_add_54 : decode cX3_add 54 = .ok (.getfield 22, 3) := by decide +kernel
theorem dX3_add_57 : decode cX3_add 57 = .ok (.iconst 1, 1) := by decide +kernel
theorem dX3_add_58 : decode cX3_add 58 = .ok (.iadd, 1) := by decide +kernel
theorem dX3_add_59 : decode cX3_add 59 = .ok (.putfield 22, 3) := by decide +kernel
theorem dX3_add_62 : decode cX3_add 62 = .ok (.iconst 1, 1) := by decide +kernel
theorem dX3_add_63 : decode cX3_add 63 = .ok (.ireturn, 1) := by decide +kernel
def fX3_add (a1 : Int) (a2 : Int) (a3 : Int) (a4 : Int) (s0 : Mem) : Option Res :=
 (if s0 89 4 < 8 then
 ST s0 90 (s0 89 4) 8 a1 (fun s1 =>
 ST s1 91 (s1 89 4) 8 a2 (fun s2 =>
 ST s2 92 (s2 89 4) 8 a3 (fun s3 =>
 ST s3 93 (s3 89 4) 8 a4 (fun s4 =>
 lt (up s4 89 4 (wr ((s4 89 4) + 1))) (fun s5 =>
 zr 1 s5)))))
 else
 zr 0 s0)
set_option maxRecDepth 100000 in
set_option maxHeartbeats 4000000 in
theorem mX3_add (l : Launch) (D : va_G) (ad : Nat → Nat) (cA : Nat → ClassId) (a1 : Int) (a2 : Int) (a3 : Int) (a4 : Int) (s0 : Mem) : MCi l D ad cA yX3_add cX3_add 5 (some .boolean) rmX3_add [.inr (.inr 89), .inl a1, .inl a2, .inl a3, .inl a4] s0 (fX3_add a1 a2 a3 a4 s0) := by
  refine MCi_ofE (own := RX3) (ls := [some (.inr (.inr 89)), some (.inl a1), some (.inl a2), some (.inl a3), some (.inl a4)]) 0 (by decide +kernel) rfl rfl (fun _ => Nat.le_of_ble_eq_true rfl) (fun K hq => ?_)
  unfold fX3_add
  refine j_aload_n dX3_add_0 rfl rfl ?_
  refine j_getI fl_RX3_22 sh_89 rfl dX3_add_1 ?_
  refine j_bipush (v := 8) dX3_add_4 (by decide +kernel) (inr_d rfl) ?_
  refine j_icmp_lt (tgt := 11) dX3_add_6 rfl ?_ ?_
  · refine j_aload_n dX3_add_11 rfl rfl ?_
    refine j_getR fl_RX3_9 sh_89 rfl dX3_add_12 ?_
    refine j_aload_n dX3_add_15 rfl rfl ?_
    refine j_getI fl_RX3_22 sh_89 rfl dX3_add_16 ?_
    refine j_iload_n dX3_add_19 rfl rfl ?_
    refine j_iast sh_90 dX3_add_20 (fun s1 => ?_)
    refine j_aload_n dX3_add_21 rfl rfl ?_
    refine j_getR fl_RX3_13 sh_89 rfl dX3_add_22 ?_
    refine j_aload_n dX3_add_25 rfl rfl ?_
    refine j_getI fl_RX3_22 sh_89 rfl dX3_add_26 ?_
    refine j_iload_n dX3_add_29 rfl rfl ?_
    refine j_iast sh_91 dX3_add_30 (fun s2 => ?_)
    refine j_aload_n dX3_add_31 rfl rfl ?_
    refine j_getR fl_RX3_16 sh_89 rfl dX3_add_32 ?_
    refine j_aload_n dX3_add_35 rfl rfl ?_
    refine j_getI fl_RX3_22 sh_89 rfl dX3_add_36 ?_
    refine j_iload_n dX3_add_39 rfl rfl ?_
    refine j_iast sh_92 dX3_add_40 (fun s3 => ?_)
    refine j_aload_n dX3_add_41 rfl rfl ?_
    refine j_getR fl_RX3_19 sh_89 rfl dX3_add_42 ?_
    refine j_aload_n dX3_add_45 rfl rfl ?_
    refine j_getI fl_RX3_22 sh_89 rfl dX3_add_46 ?_
    refine j_iload dX3_add_49 rfl ?_
    refine j_iast sh_93 dX3_add_51 (fun s4 => ?_)
    refine j_aload_n dX3_add_52 rfl rfl ?_
    refine j_dup rfl dX3_add_53 ?_
    refine j_getI fl_RX3_22 sh_89 rfl dX3_add_54 ?_
    refine j_iconst dX3_add_57 (inr_d rfl) ?_
    refine j_iadd dX3_add_58 ?_
    refine j_putI fp_RX3_22 sh_89 rfl dX3_add_59 (fun s5 => ?_)
    refine j_iconst dX3_add_62 (inr_d rfl) ?_
    exact j_zret hq dX3_add_63
  · refine j_iconst dX3_add_9 (inr_d rfl) ?_
    exact j_zret hq dX3_add_10
abbrev rmX3_remove : Room := { frames := 0, cells := 0, slots := 0, locals := 0 }
theorem dX3_remove_0 : decode cX3_remove 0 = .ok (.aload_n 0, 1) := by decide +kernel
theorem dX3_remove_1 : decode cX3_remove 1 = .ok (.dup, 1) := by decide +kernel
theorem dX3_remove_2 : decode cX3_remove 2 = .ok (.getfield 22, 3) := by decide +kernel
theorem dX3_remove_5 : decode cX3_remove 5 = .ok (.iconst 1, 1) := by decide +kernel
theorem dX3_remove_6 : decode cX3_remove 6 = .ok (.isub, 1) := by decide +kernel
theorem dX3_remove_7 : decode cX3_remove 7 = .ok (.putfield 22, 3) := by decide +kernel
theorem dX3_remove_10 : decode cX3_remove 10 = .ok (.iload_n 1, 1) := by decide +kernel
theorem dX3_remove_11 : decode cX3_remove 11 = .ok (.istore_n 2, 1) := by decide +kernel
theorem dX3_remove_12 : decode cX3_remove 12 = .ok (.iload_n 2, 1) := by decide +kernel
theorem dX3_remove_13 : decode cX3_remove 13 = .ok (.aload_n 0, 1) := by decide +kernel
theorem dX3_remove_14 : decode cX3_remove 14 = .ok (.getfield 22, 3) := by decide +kernel
theorem dX3_remove_17 : decode cX3_remove 17 = .ok (.if_icmp .ge 65, 3) := by decide +kernel
theorem dX3_remove_20 : decode cX3_remove 20 = .ok (.aload_n 0, 1) := by decide +kernel
theorem dX3_remove_21 : decode cX3_remove 21 = .ok (.getfield 9, 3) := by decide +kernel
theorem dX3_remove_24 : decode cX3_remove 24 = .ok (.iload_n 2, 1) := by decide +kernel
theorem dX3_remove_25 : decode cX3_remove 25 = .ok (.aload_n 0, 1) := by decide +kernel
theorem dX3_remove_26 : decode cX3_remove 26 = .ok (.getfield 9, 3) := by decide +kernel
theorem dX3_remove_29 : decode cX3_remove 29 = .ok (.iload_n 2, 1) := by decide +kernel
theorem dX3_remove_30 : decode cX3_remove 30 = .ok (.iconst 1, 1) := by decide +kernel
theorem dX3_remove_31 : decode cX3_remove 31 = .ok (.iadd, 1) := by decide +kernel
theorem dX3_remove_32 : decode cX3_remove 32 = .ok (.iaload, 1) := by decide +kernel
theorem dX3_remove_33 : decode cX3_remove 33 = .ok (.iastore, 1) := by decide +kernel
theorem dX3_remove_34 : decode cX3_remove 34 = .ok (.aload_n 0, 1) := by decide +kernel
theorem dX3_remove_35 : decode cX3_remove 35 = .ok (.getfield 13, 3) := by decide +kernel
theorem dX3_remove_38 : decode cX3_remove 38 = .ok (.iload_n 2, 1) := by decide +kernel
theorem dX3_remove_39 : decode cX3_remove 39 = .ok (.aload_n 0, 1) := by decide +kernel
theorem dX3_remove_40 : decode cX3_remove 40 = .ok (.getfield 13, 3) := by decide +kernel
theorem dX3_remove_43 : decode cX3_remove 43 = .ok (.iload_n 2, 1) := by decide +kernel
theorem dX3_remove_44 : decode cX3_remove 44 = .ok (.iconst 1, 1) := by decide +kernel
theorem dX3_remove_45 : decode cX3_remove 45 = .ok (.iadd, 1) := by decide +kernel
theorem dX3_remove_46 : decode cX3_remove 46 = .ok (.iaload, 1) := by decide +kernel
theorem dX3_remove_47 : decode cX3_remove 47 = .ok (.iastore, 1) := by decide +kernel
theorem dX3_remove_48 : decode cX3_remove 48 = .ok (.aload_n 0, 1) := by decide +kernel
theorem dX3_remove_49 : decode cX3_remove 49 = .ok (.getfield 16, 3) := by decide +kernel
theorem dX3_remove_52 : decode cX3_remove 52 = .ok (.iload_n 2, 1) := by decide +kernel
theorem dX3_remove_53 : decode cX3_remove 53 = .ok (.aload_n 0, 1) := by decide +kernel
theorem dX3_remove_54 : decode cX3_remove 54 = .ok (.getfield 16, 3) := by decide +kernel
theorem dX3_remove_57 : decode cX3_remove 57 = .ok (.iload_n 2, 1) := by decide +kernel
theorem dX3_remove_58 : decode cX3_remove 58 = .ok (.iconst 1, 1) := by decide +kernel
theorem dX3_remove_59 : decode cX3_remove 59 = .ok (.iadd, 1) := by decide +kernel
theorem dX3_remove_60 : decode cX3_remove 60 = .ok (.iaload, 1) := by decide +kernel
theorem dX3_remove_61 : decode cX3_remove 61 = .ok (.iastore, 1) := by decide +kernel
theorem dX3_remove_62 : decode cX3_remove 62 = .ok (.aload_n 0, 1) := by decide +kernel
theorem dX3_remove_63 : decode cX3_remove 63 = .ok (.getfield 19, 3) := by decide +kernel
theorem dX3_remove_66 : decode cX3_remove 66 = .ok (.iload_n 2, 1) := by decide +kernel
theorem dX3_remove_67 : decode cX3_remove 67 = .ok (.aload_n 0, 1) := by decide +kernel
theorem dX3_remove_68 : decode cX3_remove 68 = .ok (.getfield 19, 3) := by decide +kernel
theorem dX3_remove_71 : decode cX3_remove 71 = .ok (.iload_n 2, 1) := by decide +kernel
theorem dX3_remove_72 : decode cX3_remove 72 = .ok (.iconst 1, 1) := by decide +kernel
theorem dX3_remove_73 : decode cX3_remove 73 = .ok (.iadd, 1) := by decide +kernel
theorem dX3_remove_74 : decode cX3_remove 74 = .ok (.iaload, 1) := by decide +kernel
theorem dX3_remove_75 : decode cX3_remove 75 = .ok (.iastore, 1) := by decide +kernel
theorem dX3_remove_76 : decode cX3_remove 76 = .ok (.iinc 2 1, 3) := by decide +kernel
theorem dX3_remove_79 : decode cX3_remove 79 = .ok (.goto (-67), 3) := by decide +kernel
theorem dX3_remove_82 : decode cX3_remove 82 = .ok (.return_, 1) := by decide +kernel
def LX3_remove_12 (k82 : Mem → Option Res) : Nat → Int → Mem → Option Res
  | 0 => fun _ _ => none
  | n + 1 => fun x2 s => (if s 89 4 ≤ x2 then
 k82 s
 else
 rd (s 90) (wr (x2 + 1)) 8 (fun v2 =>
 ST s 90 x2 8 v2 (fun s3 =>
 rd (s3 91) (wr (x2 + 1)) 8 (fun v4 =>
 ST s3 91 x2 8 v4 (fun s5 =>
 rd (s5 92) (wr (x2 + 1)) 8 (fun v6 =>
 ST s5 92 x2 8 v6 (fun s7 =>
 rd (s7 93) (wr (x2 + 1)) 8 (fun v8 =>
 ST s7 93 x2 8 v8 (fun s9 =>
 LX3_remove_12 k82 n (wr (x2 + 1)) s9)))))))))
def fX3_remove (a1 : Int) (s0 : Mem) : Option Res :=
 lt (up s0 89 4 (wr ((s0 89 4) - 1))) (fun s1 =>
 LX3_remove_12 (fun s10 =>
 some (0, s10)) FU a1 s1)
set_option maxRecDepth 100000 in
set_option maxHeartbeats 4000000 in
theorem jLX3_remove_12 {K : KT} (hq : KV K none) (k82 : Mem → Option Res) (hk82 : ∀ (s : Mem), J K rmX3_remove cX3_remove RX3 3 82 [none, none, none] [] s (k82 s)) : ∀ (n : Nat) (x2 : Int) (s : Mem), J K rmX3_remove cX3_remove RX3 3 12 [some (.inr (.inr 89)), none, some (.inl x2)] [] s (LX3_remove_12 k82 n x2 s) := by
  intro n
  induction n with
  | zero => intros; exact J_none
  | succ n ih =>
    intro x2 s
    show J K _ _ _ _ _ _ _ _ (LX3_remove_12 k82 (n + 1) x2 s)
    simp only [LX3_remove_12]
    refine j_iload_n dX3_remove_12 rfl rfl ?_
    refine j_aload_n dX3_remove_13 rfl rfl ?_
    refine j_getI fl_RX3_22 sh_89 rfl dX3_remove_14 ?_
    refine j_icmp_ge (tgt := 82) dX3_remove_17 rfl ?_ ?_
    · exact j_msk [false, false, false] (hk82 _)
    · refine j_aload_n dX3_remove_20 rfl rfl ?_
      refine j_getR fl_RX3_9 sh_89 rfl dX3_remove_21 ?_
      refine j_iload_n dX3_remove_24 rfl rfl ?_
      refine j_aload_n dX3_remove_25 rfl rfl ?_
      refine j_getR fl_RX3_9 sh_89 rfl dX3_remove_26 ?_
      refine j_iload_n dX3_remove_29 rfl rfl ?_
      refine j_iconst dX3_remove_30 (inr_d rfl) ?_
      refine j_iadd dX3_remove_31 ?_
      refine j_iald sh_90 dX3_remove_32 (fun v2 => ?_)
      refine j_iast sh_90 dX3_remove_33 (fun s3 => ?_)
      refine j_aload_n dX3_remove_34 rfl rfl ?_
      refine j_getR fl_RX3_13 sh_89 rfl dX3_remove_35 ?_
      refine j_iload_n dX3_remove_38 rfl rfl ?_
      refine j_aload_n dX3_remove_39 rfl rfl ?_
      refine j_getR fl_RX3_13 sh_89 rfl dX3_remove_40 ?_
      refine j_iload_n dX3_remove_43 rfl rfl ?_
      refine j_iconst dX3_remove_44 (inr_d rfl) ?_
      refine j_iadd dX3_remove_45 ?_
      refine j_iald sh_91 dX3_remove_46 (fun v4 => ?_)
      refine j_iast sh_91 dX3_remove_47 (fun s5 => ?_)
      refine j_aload_n dX3_remove_48 rfl rfl ?_
      refine j_getR fl_RX3_16 sh_89 rfl dX3_remove_49 ?_
      refine j_iload_n dX3_remove_52 rfl rfl ?_
      refine j_aload_n dX3_remove_53 rfl rfl ?_
      refine j_getR fl_RX3_16 sh_89 rfl dX3_remove_54 ?_
      refine j_iload_n dX3_remove_57 rfl rfl ?_
      refine j_iconst dX3_remove_58 (inr_d rfl) ?_
      refine j_iadd dX3_remove_59 ?_
      refine j_iald sh_92 dX3_remove_60 (fun v6 => ?_)
      refine j_iast sh_92 dX3_remove_61 (fun s7 => ?_)
      refine j_aload_n dX3_remove_62 rfl rfl ?_
      refine j_getR fl_RX3_19 sh_89 rfl dX3_remove_63 ?_
      refine j_iload_n dX3_remove_66 rfl rfl ?_
      refine j_aload_n dX3_remove_67 rfl rfl ?_
      refine j_getR fl_RX3_19 sh_89 rfl dX3_remove_68 ?_
      refine j_iload_n dX3_remove_71 rfl rfl ?_
      refine j_iconst dX3_remove_72 (inr_d rfl) ?_
      refine j_iadd dX3_remove_73 ?_
      refine j_iald sh_93 dX3_remove_74 (fun v8 => ?_)
      refine j_iast sh_93 dX3_remove_75 (fun s9 => ?_)
      refine j_iincE (ls2 := [some (.inr (.inr 89)), none, some (.inl (wr (x2 + 1)))]) dX3_remove_76 rfl (by decide) rfl rfl ?_
      refine j_goto (tgt := 12) dX3_remove_79 rfl ?_
      exact j_msk [true, false, true] (ih _ _)
set_option maxRecDepth 100000 in
set_option maxHeartbeats 4000000 in
theorem mX3_remove (l : Launch) (D : va_G) (ad : Nat → Nat) (cA : Nat → ClassId) (a1 : Int) (s0 : Mem) : MCv l D ad cA yX3_remove cX3_remove 3 none rmX3_remove [.inr (.inr 89), .inl a1] s0 (fX3_remove a1 s0) := by
  refine MCv_ofE (own := RX3) (ls := [some (.inr (.inr 89)), some (.inl a1), none]) 1 (by decide +kernel) rfl rfl (fun _ => Nat.le_of_ble_eq_true rfl) (fun K hq => ?_)
  unfold fX3_remove
  refine j_aload_n dX3_remove_0 rfl rfl ?_
  refine j_dup rfl dX3_remove_1 ?_
  refine j_getI fl_RX3_22 sh_89 rfl dX3_remove_2 ?_
  refine j_iconst dX3_remove_5 (inr_d rfl) ?_
  refine j_isub dX3_remove_6 ?_
  refine j_putI fp_RX3_22 sh_89 rfl dX3_remove_7 (fun s1 => ?_)
  refine j_iload_n dX3_remove_10 rfl rfl ?_
  refine j_istore_nE (ls2 := [some (.inr (.inr 89)), some (.inl a1), some (.inl a1)]) dX3_remove_11 rfl (by decide) rfl rfl ?_
  refine j_msk [true, false, true] (jLX3_remove_12 hq _ (fun s10 => ?_) _ _ _)
  exact j_vret hq dX3_remove_82
abbrev rmX3_lateness : Room := { frames := 1, cells := 0, slots := 0, locals := 21 }
theorem dX3_lateness_0 : decode cX3_lateness 0 = .ok (.aload_n 0, 1) := by decide +kernel
theorem dX3_lateness_1 : decode cX3_lateness 1 = .ok (.getfield 16, 3) := by decide +kernel
theorem dX3_lateness_4 : decode cX3_lateness 4 = .ok (.iload_n 1, 1) := by decide +kernel
theorem dX3_lateness_5 : decode cX3_lateness 5 = .ok (.iaload, 1) := by decide +kernel
theorem dX3_lateness_6 : decode cX3_lateness 6 = .ok (.iconst 0, 1) := by decide +kernel
theorem dX3_lateness_7 : decode cX3_lateness 7 = .ok (.iload_n 2, 1) := by decide +kernel
theorem dX3_lateness_8 : decode cX3_lateness 8 = .ok (.aload_n 0, 1) := by decide +kernel
theorem dX3_lateness_9 : decode cX3_lateness 9 = .ok (.getfield 13, 3) := by decide +kernel
theorem dX3_lateness_12 : decode cX3_lateness 12 = .ok (.iload_n 1, 1) := by decide +kernel
theorem dX3_lateness_13 : decode cX3_lateness 13 = .ok (.iaload, 1) := by decide +kernel
theorem dX3_lateness_14 : decode cX3_lateness 14 = .ok (.isub, 1) := by decide +kernel
theorem dX3_lateness_15 : decode cX3_lateness 15 = .ok (.invokestatic 26, 3) := by decide +kernel
theorem dX3_lateness_18 : decode cX3_lateness 18 = .ok (.imul, 1) := by decide +kernel
theorem dX3_lateness_19 : decode cX3_lateness 19 = .ok (.ireturn, 1) := by decide +kernel
def fX3_lateness (a1 : Int) (a2 : Int) (s0 : Mem) : Option Res :=
 rd (s0 92) a1 8 (fun v1 =>
 rd (s0 91) a1 8 (fun v2 =>
 some (wr (v1 * (mx 0 (wr (a2 - v2)))), s0)))
set_option maxRecDepth 100000 in
set_option maxHeartbeats 4000000 in
theorem mX3_lateness (l : Launch) (D : va_G) (ad : Nat → Nat) (cA : Nat → ClassId) (a1 : Int) (a2 : Int) (s0 : Mem) : MCi l D ad cA yX3_lateness cX3_lateness 3 (some .int) rmX3_lateness [.inr (.inr 89), .inl a1, .inl a2] s0 (fX3_lateness a1 a2 s0) := by
  refine MCi_ofE (own := RX3) (ls := [some (.inr (.inr 89)), some (.inl a1), some (.inl a2)]) 0 (by decide +kernel) rfl rfl (fun _ => Nat.le_of_ble_eq_true rfl) (fun K hq => ?_)
  unfold fX3_lateness
  refine j_aload_n dX3_lateness_0 rfl rfl ?_
  refine j_getR fl_RX3_16 sh_89 rfl dX3_lateness_1 ?_
  refine j_iload_n dX3_lateness_4 rfl rfl ?_
  refine j_iald sh_92 dX3_lateness_5 (fun v1 => ?_)
  refine j_iconst dX3_lateness_6 (inr_d rfl) ?_
  refine j_iload_n dX3_lateness_7 rfl rfl ?_
  refine j_aload_n dX3_lateness_8 rfl rfl ?_
  refine j_getR fl_RX3_13 sh_89 rfl dX3_lateness_9 ?_
  refine j_iload_n dX3_lateness_12 rfl rfl ?_
  refine j_iald sh_91 dX3_lateness_13 (fun v2 => ?_)
  refine j_isub dX3_lateness_14 ?_
  refine j_max mw_RX3_26 ⟨by decide, Nat.le_of_ble_eq_true rfl⟩ dX3_lateness_15 ?_
  refine j_imul dX3_lateness_18 ?_
  exact j_iret hq dX3_lateness_19
abbrev rmX10_isIn : Room := { frames := 0, cells := 0, slots := 0, locals := 0 }
theorem dX10_isIn_0 : decode cX10_isIn 0 = .ok (.iload_n 0, 1) := by decide +kernel
theorem dX10_isIn_1 : decode cX10_isIn 1 = .ok (.iload_n 1, 1) := by decide +kernel
theorem dX10_isIn_2 : decode cX10_isIn 2 = .ok (.ishr, 1) := by decide +kernel
theorem dX10_isIn_3 : decode cX10_isIn 3 = .ok (.iconst 1, 1) := by decide +kernel
theorem dX10_isIn_4 : decode cX10_isIn 4 = .ok (.iand, 1) := by decide +kernel
theorem dX10_isIn_5 : decode cX10_isIn 5 = .ok (.iconst 1, 1) := by decide +kernel
theorem dX10_isIn_6 : decode cX10_isIn 6 = .ok (.if_icmp .ne 7, 3) := by decide +kernel
theorem dX10_isIn_9 : decode cX10_isIn 9 = .ok (.iconst 1, 1) := by decide +kernel
theorem dX10_isIn_10 : decode cX10_isIn 10 = .ok (.goto 4, 3) := by decide +kernel
theorem dX10_isIn_13 : decode cX10_isIn 13 = .ok (.iconst 0, 1) := by decide +kernel
theorem dX10_isIn_14 : decode cX10_isIn 14 = .ok (.ireturn, 1) := by decide +kernel
def fX10_isIn (a0 : Int) (a1 : Int) (s0 : Mem) : Option Res :=
 (if ian (isr a0 a1) 1 ≠ 1 then
 zr 0 s0
 else
 zr 1 s0)
set_option maxRecDepth 100000 in
set_option maxHeartbeats 4000000 in
theorem mX10_isIn (l : Launch) (D : va_G) (ad : Nat → Nat) (cA : Nat → ClassId) (a0 : Int) (a1 : Int) (s0 : Mem) : MCi l D ad cA yX10_isIn cX10_isIn 2 (some .boolean) rmX10_isIn [.inl a0, .inl a1] s0 (fX10_isIn a0 a1 s0) := by
  refine MCi_ofE (own := RX10) (ls := [some (.inl a0), some (.inl a1)]) 0 (by decide +kernel) rfl rfl (fun _ => Nat.le_of_ble_eq_true rfl) (fun K hq => ?_)
  unfold fX10_isIn
  refine j_iload_n dX10_isIn_0 rfl rfl ?_
  refine j_iload_n dX10_isIn_1 rfl rfl ?_
  refine j_ishr dX10_isIn_2 ?_
  refine j_iconst dX10_isIn_3 (inr_d rfl) ?_
  refine j_iand dX10_isIn_4 ?_
  refine j_iconst dX10_isIn_5 (inr_d rfl) ?_
  refine j_icmp_ne (tgt := 13) dX10_isIn_6 rfl ?_ ?_
  · refine j_iconst dX10_isIn_13 (inr_d rfl) ?_
    exact j_zret hq dX10_isIn_14
  · refine j_iconst dX10_isIn_9 (inr_d rfl) ?_
    refine j_goto (tgt := 14) dX10_isIn_10 rfl ?_
    exact j_zret hq dX10_isIn_14
abbrev rmX3_setOn : Room := { frames := 1, cells := 0, slots := 0, locals := 21 }
theorem dX3_setOn_0 : decode cX3_setOn 0 = .ok (.iconst 0, 1) := by decide +kernel
theorem dX3_setOn_1 : decode cX3_setOn 1 = .ok (.istore_n 2, 1) := by decide +kernel
theorem dX3_setOn_2 : decode cX3_setOn 2 = .ok (.iconst 0, 1) := by decide +kernel
theorem dX3_setOn_3 : decode cX3_setOn 3 = .ok (.istore_n 3, 1) := by decide +kernel
theorem dX3_setOn_4 : decode cX3_setOn 4 = .ok (.iload_n 3, 1) := by decide +kernel
theorem dX3_setOn_5 : decode cX3_setOn 5 = .ok (.aload_n 0, 1) := by decide +kernel
theorem dX3_setOn_6 : decode cX3_setOn 6 = .ok (.getfield 22, 3) := by decide +kernel
theorem dX3_setOn_9 : decode cX3_setOn 9 = .ok (.if_icmp .ge 28, 3) := by decide +kernel
theorem dX3_setOn_12 : decode cX3_setOn 12 = .ok (.iload_n 1, 1) := by decide +kernel
theorem dX3_setOn_13 : decode cX3_setOn 13 = .ok (.aload_n 0, 1) := by decide +kernel
theorem dX3_setOn_14 : decode cX3_setOn 14 = .ok (.getfield 19, 3) := by decide +kernel
theorem dX3_setOn_17 : decode cX3_setOn 17 = .ok (.iload_n 3, 1) := by decide +kernel
theorem dX3_setOn_18 : decode cX3_setOn 18 = .ok (.iaload, 1) := by decide +kernel
theorem dX3_setOn_19 : decode cX3_setOn 19 = .ok (.invokestatic 32, 3) := by decide +kernel
theorem dX3_setOn_22 : decode cX3_setOn 22 = .ok (.ifCond .eq 9, 3) := by decide +kernel
theorem dX3_setOn_25 : decode cX3_setOn 25 = .ok (.iload_n 2, 1) := by decide +kernel
theorem dX3_setOn_26 : decode cX3_setOn 26 = .ok (.iconst 1, 1) := by decide +kernel
theorem dX3_setOn_27 : decode cX3_setOn 27 = .ok (.iload_n 3, 1) := by decide +kernel
theorem dX3_setOn_28 : decode cX3_setOn 28 = .ok (.ishl, 1) := by decide +kernel
theorem dX3_setOn_29 : decode cX3_setOn 29 = .ok (.ior, 1) := by decide +kernel
theorem dX3_setOn_30 : decode cX3_setOn 30 = .ok (.istore_n 2, 1) := by decide +kernel
theorem dX3_setOn_31 : decode cX3_setOn 31 = .ok (.iinc 3 1, 3) := by decide +kernel
theorem dX3_setOn_34 : decode cX3_setOn 34 = .ok (.goto (-30), 3) := by decide +kernel
theorem dX3_setOn_37 : decode cX3_setOn 37 = .ok (.iload_n 2, 1) := by decide +kernel
theorem dX3_setOn_38 : decode cX3_setOn 38 = .ok (.ireturn, 1) := by decide +kernel
def LX3_setOn_4 (c1 : Int) (k37 : Int → Mem → Option Res) : Nat → Int → Int → Mem → Option Res
  | 0 => fun _ _ _ => none
  | n + 1 => fun x2 x3 s => (if s 89 4 ≤ x3 then
 k37 x2 s
 else
 rd (s 93) x3 8 (fun v1 =>
 bnd (fX10_isIn c1 v1 s) (fun r2 s3 =>
 (if r2 = 0 then
 LX3_setOn_4 c1 k37 n x2 (wr (x3 + 1)) s3
 else
 lt (iir x2 (ish 1 x3)) (fun v4 =>
 LX3_setOn_4 c1 k37 n v4 (wr (x3 + 1)) s3)))))
def fX3_setOn (a1 : Int) (s0 : Mem) : Option Res :=
 LX3_setOn_4 a1 (fun y6 s5 =>
 some (y6, s5)) FU 0 0 s0
set_option maxRecDepth 100000 in
set_option maxHeartbeats 4000000 in
theorem jLX3_setOn_4 {K : KT} (hq : KI K (some .int)) (c1 : Int) (k37 : Int → Mem → Option Res) (hk37 : ∀ (y2 : Int) (s : Mem), J K rmX3_setOn cX3_setOn RX3 4 37 [none, none, some (.inl y2), none] [] s (k37 y2 s)) : ∀ (n : Nat) (x2 : Int) (x3 : Int) (s : Mem), J K rmX3_setOn cX3_setOn RX3 4 4 [some (.inr (.inr 89)), some (.inl c1), some (.inl x2), some (.inl x3)] [] s (LX3_setOn_4 c1 k37 n x2 x3 s) := by
  intro n
  induction n with
  | zero => intros; exact J_none
  | succ n ih =>
    intro x2 x3 s
    show J K _ _ _ _ _ _ _ _ (LX3_setOn_4 c1 k37 (n + 1) x2 x3 s)
    simp only [LX3_setOn_4]
    refine j_iload_n dX3_setOn_4 rfl rfl ?_
    refine j_aload_n dX3_setOn_5 rfl rfl ?_
    refine j_getI fl_RX3_22 sh_89 rfl dX3_setOn_6 ?_
    refine j_icmp_ge (tgt := 37) dX3_setOn_9 rfl ?_ ?_
    · exact j_msk [false, false, true, false] (hk37 _ _)
    · refine j_iload_n dX3_setOn_12 rfl rfl ?_
      refine j_aload_n dX3_setOn_13 rfl rfl ?_
      refine j_getR fl_RX3_19 sh_89 rfl dX3_setOn_14 ?_
      refine j_iload_n dX3_setOn_17 rfl rfl ?_
      refine j_iald sh_93 dX3_setOn_18 (fun v1 => ?_)
      refine j_callNi (mX10_isIn (kl K) (kD K) (kad K) (kcA K) c1 v1 s) cw_RX3_32 ⟨rfl, rfl, by decide, by decide⟩ rfl rfl (Nat.le_of_ble_eq_true rfl) dX3_setOn_19 (fun r2 s3 => ?_)
      refine j_if_eq (tgt := 31) dX3_setOn_22 rfl ?_ ?_
      · refine j_iincE (ls2 := [some (.inr (.inr 89)), some (.inl c1), some (.inl x2), some (.inl (wr (x3 + 1)))]) dX3_setOn_31 rfl (by decide) rfl rfl ?_
        refine j_goto (tgt := 4) dX3_setOn_34 rfl ?_
        exact j_msk [true, true, true, true] (ih _ _ _)
      · refine j_iload_n dX3_setOn_25 rfl rfl ?_
        refine j_iconst dX3_setOn_26 (inr_d rfl) ?_
        refine j_iload_n dX3_setOn_27 rfl rfl ?_
        refine j_ishl dX3_setOn_28 ?_
        refine j_ior dX3_setOn_29 ?_
        refine j_ltv (fun v4 => ?_)
        refine j_istore_nE (ls2 := [some (.inr (.inr 89)), some (.inl c1), some (.inl v4), some (.inl x3)]) dX3_setOn_30 rfl (by decide) rfl rfl ?_
        refine j_iincE (ls2 := [some (.inr (.inr 89)), some (.inl c1), some (.inl v4), some (.inl (wr (x3 + 1)))]) dX3_setOn_31 rfl (by decide) rfl rfl ?_
        refine j_goto (tgt := 4) dX3_setOn_34 rfl ?_
        exact j_msk [true, true, true, true] (ih _ _ _)
set_option maxRecDepth 100000 in
set_option maxHeartbeats 4000000 in
theorem mX3_setOn (l : Launch) (D : va_G) (ad : Nat → Nat) (cA : Nat → ClassId) (a1 : Int) (s0 : Mem) : MCi l D ad cA yX3_setOn cX3_setOn 4 (some .int) rmX3_setOn [.inr (.inr 89), .inl a1] s0 (fX3_setOn a1 s0) := by
  refine MCi_ofE (own := RX3) (ls := [some (.inr (.inr 89)), some (.inl a1), none, none]) 2 (by decide +kernel) rfl rfl (fun _ => Nat.le_of_ble_eq_true rfl) (fun K hq => ?_)
  unfold fX3_setOn
  refine j_iconst dX3_setOn_0 (inr_d rfl) ?_
  refine j_istore_nE (ls2 := [some (.inr (.inr 89)), some (.inl a1), some (.inl 0), none]) dX3_setOn_1 rfl (by decide) rfl rfl ?_
  refine j_iconst dX3_setOn_2 (inr_d rfl) ?_
  refine j_istore_nE (ls2 := [some (.inr (.inr 89)), some (.inl a1), some (.inl 0), some (.inl 0)]) dX3_setOn_3 rfl (by decide) rfl rfl ?_
  refine j_msk [true, true, true, true] (jLX3_setOn_4 hq _ _ (fun y6 s5 => ?_) _ _ _ _)
  refine j_iload_n dX3_setOn_37 rfl rfl ?_
  exact j_iret hq dX3_setOn_38
abbrev rmJ6_numberOfTrailingZeros_0f7a4 : Room := { frames := 0, cells := 0, slots := 0, locals := 0 }
theorem dJ6_numberOfTrailingZeros_0f7a4_0 : decode cJ6_numberOfTrailingZeros_0f7a4 0 = .ok (.iload_n 0, 1) := by decide +kernel
theorem dJ6_numberOfTrailingZeros_0f7a4_1 : decode cJ6_numberOfTrailingZeros_0f7a4 1 = .ok (.iconst (-1), 1) := by decide +kernel
theorem dJ6_numberOfTrailingZeros_0f7a4_2 : decode cJ6_numberOfTrailingZeros_0f7a4 2 = .ok (.ixor, 1) := by decide +kernel
theorem dJ6_numberOfTrailingZeros_0f7a4_3 : decode cJ6_numberOfTrailingZeros_0f7a4 3 = .ok (.iload_n 0, 1) := by decide +kernel
theorem dJ6_numberOfTrailingZeros_0f7a4_4 : decode cJ6_numberOfTrailingZeros_0f7a4 4 = .ok (.iconst 1, 1) := by decide +kernel
theorem dJ6_numberOfTrailingZeros_0f7a4_5 : decode cJ6_numberOfTrailingZeros_0f7a4 5 = .ok (.isub, 1) := by decide +kernel
theorem dJ6_numberOfTrailingZeros_0f7a4_6 : decode cJ6_numberOfTrailingZeros_0f7a4 6 = .ok (.iand, 1) := by decide +kernel
theorem dJ6_numberOfTrailingZeros_0f7a4_7 : decode cJ6_numberOfTrailingZeros_0f7a4 7 = .ok (.istore_n 0, 1) := by decide +kernel
theorem dJ6_numberOfTrailingZeros_0f7a4_8 : decode cJ6_numberOfTrailingZeros_0f7a4 8 = .ok (.iload_n 0, 1) := by decide +kernel
theorem dJ6_numberOfTrailingZeros_0f7a4_9 : decode cJ6_numberOfTrailingZeros_0f7a4 9 = .ok (.ifCond .gt 8, 3) := by decide +kernel
theorem dJ6_numberOfTrailingZeros_0f7a4_12 : decode cJ6_numberOfTrailingZeros_0f7a4 12 = .ok (.iload_n 0, 1) := by decide +kernel
theorem dJ6_numberOfTrailingZeros_0f7a4_13 : decode cJ6_numberOfTrailingZeros_0f7a4 13 = .ok (.bipush 32, 2) := by decide +kernel
theorem dJ6_numberOfTrailingZeros_0f7a4_15 : decode cJ6_numberOfTrailingZeros_0f7a4 15 = .ok (.iand, 1) := by decide +kernel
theorem dJ6_numberOfTrailingZeros_0f7a4_16 : decode cJ6_numberOfTrailingZeros_0f7a4 16 = .ok (.ireturn, 1) := by decide +kernel
theorem dJ6_numberOfTrailingZeros_0f7a4_17 : decode cJ6_numberOfTrailingZeros_0f7a4 17 = .ok (.iconst 1, 1) := by decide +kernel
theorem dJ6_numberOfTrailingZeros_0f7a4_18 : decode cJ6_numberOfTrailingZeros_0f7a4 18 = .ok (.istore_n 1, 1) := by decide +kernel
theorem dJ6_numberOfTrailingZeros_0f7a4_19 : decode cJ6_numberOfTrailingZeros_0f7a4 19 = .ok (.iload_n 0, 1) := by decide +kernel
theorem dJ6_numberOfTrailingZeros_0f7a4_20 : decode cJ6_numberOfTrailingZeros_0f7a4 20 = .ok (.ldc_w 264, 3) := by decide +kernel
theorem dJ6_numberOfTrailingZeros_0f7a4_23 : decode cJ6_numberOfTrailingZeros_0f7a4 23 = .ok (.if_icmp .le 11, 3) := by decide +kernel
theorem dJ6_numberOfTrailingZeros_0f7a4_26 : decode cJ6_numberOfTrailingZeros_0f7a4 26 = .ok (.iinc 1 16, 3) := by decide +kernel
theorem dJ6_numberOfTrailingZeros_0f7a4_29 : decode cJ6_numberOfTrailingZeros_0f7a4 29 = .ok (.iload_n 0, 1) := by decide +kernel
theorem dJ6_numberOfTrailingZeros_0f7a4_30 : decode cJ6_numberOfTrailingZeros_0f7a4 30 = .ok (.bipush 16, 2) := by decide +kernel
theorem dJ6_numberOfTrailingZeros_0f7a4_32 : decode cJ6_numberOfTrailingZeros_0f7a4 32 = .ok (.iushr, 1) := by decide +kernel
theorem dJ6_numberOfTrailingZeros_0f7a4_33 : decode cJ6_numberOfTrailingZeros_0f7a4 33 = .ok (.istore_n 0, 1) := by decide +kernel
theorem dJ6_numberOfTrailingZeros_0f7a4_34 : decode cJ6_numberOfTrailingZeros_0f7a4 34 = .ok (.iload_n 0, 1) := by decide +kernel
theorem dJ6_numberOfTrailingZeros_0f7a4_35 : decode cJ6_numberOfTrailingZeros_0f7a4 35 = .ok (.sipush 256, 3) := by decide +kernel
theorem dJ6_numberOfTrailingZeros_0f7a4_38 : decode cJ6_numberOfTrailingZeros_0f7a4 38 = .ok (.if_icmp .le 11, 3) := by decide +kernel
theorem dJ6_numberOfTrailingZeros_0f7a4_41 : decode cJ6_numberOfTrailingZeros_0f7a4 41 = .ok (.iinc 1 8, 3) := by decide +kernel
theorem dJ6_numberOfTrailingZeros_0f7a4_44 : decode cJ6_numberOfTrailingZeros_0f7a4 44 = .ok (.iload_n 0, 1) := by decide +kernel
theorem dJ6_numberOfTrailingZeros_0f7a4_45 : decode cJ6_numberOfTrailingZeros_0f7a4 45 = .ok (.bipush 8, 2) := by decide +kernel
theorem dJ6_numberOfTrailingZeros_0f7a4_47 : decode cJ6_numberOfTrailingZeros_0f7a4 47 = .ok (.iushr, 1) := by decide +kernel
theorem dJ6_numberOfTrailingZeros_0f7a4_48 : decode cJ6_numberOfTrailingZeros_0f7a4 48 = .ok (.istore_n 0, 1) := by decide +kernel
theorem dJ6_numberOfTrailingZeros_0f7a4_49 : decode cJ6_numberOfTrailingZeros_0f7a4 49 = .ok (.iload_n 0, 1) := by decide +kernel
theorem dJ6_numberOfTrailingZeros_0f7a4_50 : decode cJ6_numberOfTrailingZeros_0f7a4 50 = .ok (.bipush 16, 2) := by decide +kernel
theorem dJ6_numberOfTrailingZeros_0f7a4_52 : decode cJ6_numberOfTrailingZeros_0f7a4 52 = .ok (.if_icmp .le 10, 3) := by decide +kernel
theorem dJ6_numberOfTrailingZeros_0f7a4_55 : decode cJ6_numberOfTrailingZeros_0f7a4 55 = .ok (.iinc 1 4, 3) := by decide +kernel
theorem dJ6_numberOfTrailingZeros_0f7a4_58 : decode cJ6_numberOfTrailingZeros_0f7a4 58 = .ok (.iload_n 0, 1) := by decide +kernel
theorem dJ6_numberOfTrailingZeros_0f7a4_59 : decode cJ6_numberOfTrailingZeros_0f7a4 59 = .ok (.iconst 4, 1) := by decide +kernel
theorem dJ6_numberOfTrailingZeros_0f7a4_60 : decode cJ6_numberOfTrailingZeros_0f7a4 60 = .ok (.iushr, 1) := by decide +kernel
theorem dJ6_numberOfTrailingZeros_0f7a4_61 : decode cJ6_numberOfTrailingZeros_0f7a4 61 = .ok (.istore_n 0, 1) := by decide +kernel
theorem dJ6_numberOfTrailingZeros_0f7a4_62 : decode cJ6_numberOfTrailingZeros_0f7a4 62 = .ok (.iload_n 0, 1) := by decide +kernel
theorem dJ6_numberOfTrailingZeros_0f7a4_63 : decode cJ6_numberOfTrailingZeros_0f7a4 63 = .ok (.iconst 4, 1) := by decide +kernel
theorem dJ6_numberOfTrailingZeros_0f7a4_64 : decode cJ6_numberOfTrailingZeros_0f7a4 64 = .ok (.if_icmp .le 10, 3) := by decide +kernel
theorem dJ6_numberOfTrailingZeros_0f7a4_67 : decode cJ6_numberOfTrailingZeros_0f7a4 67 = .ok (.iinc 1 2, 3) := by decide +kernel
theorem dJ6_numberOfTrailingZeros_0f7a4_70 : decode cJ6_numberOfTrailingZeros_0f7a4 70 = .ok (.iload_n 0, 1) := by decide +kernel
theorem dJ6_numberOfTrailingZeros_0f7a4_71 : decode cJ6_numberOfTrailingZeros_0f7a4 71 = .ok (.iconst 2, 1) := by decide +kernel
theorem dJ6_numberOfTrailingZeros_0f7a4_72 : decode cJ6_numberOfTrailingZeros_0f7a4 72 = .ok (.iushr, 1) := by decide +kernel
theorem dJ6_numberOfTrailingZeros_0f7a4_73 : decode cJ6_numberOfTrailingZeros_0f7a4 73 = .ok (.istore_n 0, 1) := by decide +kernel
theorem dJ6_numberOfTrailingZeros_0f7a4_74 : decode cJ6_numberOfTrailingZeros_0f7a4 74 = .ok (.iload_n 1, 1) := by decide +kernel
theorem dJ6_numberOfTrailingZeros_0f7a4_75 : decode cJ6_numberOfTrailingZeros_0f7a4 75 = .ok (.iload_n 0, 1) := by decide +kernel
theorem dJ6_numberOfTrailingZeros_0f7a4_76 : decode cJ6_numberOfTrailingZeros_0f7a4 76 = .ok (.iconst 1, 1) := by decide +kernel
theorem dJ6_numberOfTrailingZeros_0f7a4_77 : decode cJ6_numberOfTrailingZeros_0f7a4 77 = .ok (.iushr, 1) := by decide +kernel
theorem dJ6_numberOfTrailingZeros_0f7a4_78 : decode cJ6_numberOfTrailingZeros_0f7a4 78 = .ok (.iadd, 1) := by decide +kernel
theorem dJ6_numberOfTrailingZeros_0f7a4_79 : decode cJ6_numberOfTrailingZeros_0f7a4 79 = .ok (.ireturn, 1) := by decide +kernel
def fJ6_numberOfTrailingZeros_0f7a4 (a0 : Int) (s0 : Mem) : Option Res :=
 lt (ian (ixo a0 (-1)) (wr (a0 - 1))) (fun v1 =>
 (if 0 < v1 then
 jn (fun (w2 w3 : Int) (s4 : Mem) =>
 jn (fun (w5 w6 : Int) (s7 : Mem) =>
 jn (fun (w8 w9 : Int) (s10 : Mem) =>
 jn (fun (w11 w12 : Int) (s13 : Mem) =>
 some (wr (w12 + (ius w11 1)), s13)) (fun k74 =>
 (if w8 ≤ 4 then
 k74 w8 w9 s10
 else
 lt (ius w8 2) (fun v14 =>
 k74 v14 (wr (w9 + 2)) s10)))) (fun k62 =>
 (if w5 ≤ 16 then
 k62 w5 w6 s7
 else
 lt (ius w5 4) (fun v15 =>
 k62 v15 (wr (w6 + 4)) s7)))) (fun k49 =>
 (if w2 ≤ 256 then
 k49 w2 w3 s4
 else
 lt (ius w2 8) (fun v16 =>
 k49 v16 (wr (w3 + 8)) s4)))) (fun k34 =>
 (if v1 ≤ 65536 then
 k34 v1 1 s0
 else
 lt (ius v1 16) (fun v17 =>
 k34 v17 (wr (1 + 16)) s0)))
 else
 some (ian v1 32, s0)))
set_option maxRecDepth 100000 in
set_option maxHeartbeats 4000000 in
theorem mJ6_numberOfTrailingZeros_0f7a4 (l : Launch) (D : va_G) (ad : Nat → Nat) (cA : Nat → ClassId) (a0 : Int) (s0 : Mem) : MCi l D ad cA yJ6_numberOfTrailingZeros_0f7a4 cJ6_numberOfTrailingZeros_0f7a4 2 (some .int) rmJ6_numberOfTrailingZeros_0f7a4 [.inl a0] s0 (fJ6_numberOfTrailingZeros_0f7a4 a0 s0) := by
  refine MCi_ofF (own := RJ6) (ls := [some (.inl a0), none]) 1 (by decide +kernel) rfl rfl (fun _ => Nat.le_of_ble_eq_true rfl) (fun K hq => ?_)
  unfold fJ6_numberOfTrailingZeros_0f7a4
  refine j_iload_n dJ6_numberOfTrailingZeros_0f7a4_0 rfl rfl ?_
  refine j_iconst dJ6_numberOfTrailingZeros_0f7a4_1 (inr_d rfl) ?_
  refine j_ixor dJ6_numberOfTrailingZeros_0f7a4_2 ?_
  refine j_iload_n dJ6_numberOfTrailingZeros_0f7a4_3 rfl rfl ?_
  refine j_iconst dJ6_numberOfTrailingZeros_0f7a4_4 (inr_d rfl) ?_
  refine j_isub dJ6_numberOfTrailingZeros_0f7a4_5 ?_
  refine j_iand dJ6_numberOfTrailingZeros_0f7a4_6 ?_
  refine j_ltv (fun v1 => ?_)
  refine j_istore_nE (ls2 := [some (.inl v1), none]) dJ6_numberOfTrailingZeros_0f7a4_7 rfl (by decide) rfl rfl ?_
  refine j_iload_n dJ6_numberOfTrailingZeros_0f7a4_8 rfl rfl ?_
  refine j_if_gt (tgt := 17) dJ6_numberOfTrailingZeros_0f7a4_9 rfl ?_ ?_
  · refine j_iconst dJ6_numberOfTrailingZeros_0f7a4_17 (inr_d rfl) ?_
    refine j_istore_nE (ls2 := [some (.inl v1), some (.inl 1)]) dJ6_numberOfTrailingZeros_0f7a4_18 rfl (by decide) rfl rfl ?_
    refine j_iload_n dJ6_numberOfTrailingZeros_0f7a4_19 rfl rfl ?_
    refine j_ldcw (v := 65536) dJ6_numberOfTrailingZeros_0f7a4_20 cst_RJ6_264 (inr_d rfl) ?_
    refine j_jn (fun k34 => ∀ (w2 w3 : Int) (s4 : Mem), J K rmJ6_numberOfTrailingZeros_0f7a4 cJ6_numberOfTrailingZeros_0f7a4 RJ6 2 34 [some (.inl w2), some (.inl w3)] [] s4 (k34 w2 w3 s4)) (fun w2 w3 s4 => ?_) (fun k34 hk34 => ?_)
    · refine j_iload_n dJ6_numberOfTrailingZeros_0f7a4_34 rfl rfl ?_
      refine j_sipush (v := 256) dJ6_numberOfTrailingZeros_0f7a4_35 (by decide +kernel) (inr_d rfl) ?_
      refine j_jn (fun k49 => ∀ (w5 w6 : Int) (s7 : Mem), J K rmJ6_numberOfTrailingZeros_0f7a4 cJ6_numberOfTrailingZeros_0f7a4 RJ6 2 49 [some (.inl w5), some (.inl w6)] [] s7 (k49 w5 w6 s7)) (fun w5 w6 s7 => ?_) (fun k49 hk49 => ?_)
      · refine j_iload_n dJ6_numberOfTrailingZeros_0f7a4_49 rfl rfl ?_
        refine j_bipush (v := 16) dJ6_numberOfTrailingZeros_0f7a4_50 (by decide +kernel) (inr_d rfl) ?_
        refine j_jn (fun k62 => ∀ (w8 w9 : Int) (s10 : Mem), J K rmJ6_numberOfTrailingZeros_0f7a4 cJ6_numberOfTrailingZeros_0f7a4 RJ6 2 62 [some (.inl w8), some (.inl w9)] [] s10 (k62 w8 w9 s10)) (fun w8 w9 s10 => ?_) (fun k62 hk62 => ?_)
        · refine j_iload_n dJ6_numberOfTrailingZeros_0f7a4_62 rfl rfl ?_
          refine j_iconst dJ6_numberOfTrailingZeros_0f7a4_63 (inr_d rfl) ?_
          refine j_jn (fun k74 => ∀ (w11 w12 : Int) (s13 : Mem), J K rmJ6_numberOfTrailingZeros_0f7a4 cJ6_numberOfTrailingZeros_0f7a4 RJ6 2 74 [some (.inl w11), some (.inl w12)] [] s13 (k74 w11 w12 s13)) (fun w11 w12 s13 => ?_) (fun k74 hk74 => ?_)
          · refine j_iload_n dJ6_numberOfTrailingZeros_0f7a4_74 rfl rfl ?_
            refine j_iload_n dJ6_numberOfTrailingZeros_0f7a4_75 rfl rfl ?_
            refine j_iconst dJ6_numberOfTrailingZeros_0f7a4_76 (inr_d rfl) ?_
            refine j_iushr dJ6_numberOfTrailingZeros_0f7a4_77 ?_
            refine j_iadd dJ6_numberOfTrailingZeros_0f7a4_78 ?_
            exact j_iret hq dJ6_numberOfTrailingZeros_0f7a4_79
          refine j_icmp_le (tgt := 74) dJ6_numberOfTrailingZeros_0f7a4_64 rfl ?_ ?_
          · exact j_msk [true, true] (hk74 _ _ _)
          · refine j_iincE (ls2 := [some (.inl w8), some (.inl (wr (w9 + 2)))]) dJ6_numberOfTrailingZeros_0f7a4_67 rfl (by decide) rfl rfl ?_
            refine j_iload_n dJ6_numberOfTrailingZeros_0f7a4_70 rfl rfl ?_
            refine j_iconst dJ6_numberOfTrailingZeros_0f7a4_71 (inr_d rfl) ?_
            refine j_iushr dJ6_numberOfTrailingZeros_0f7a4_72 ?_
            refine j_ltv (fun v14 => ?_)
            refine j_istore_nE (ls2 := [some (.inl v14), some (.inl (wr (w9 + 2)))]) dJ6_numberOfTrailingZeros_0f7a4_73 rfl (by decide) rfl rfl ?_
            exact j_msk [true, true] (hk74 _ _ _)
        refine j_icmp_le (tgt := 62) dJ6_numberOfTrailingZeros_0f7a4_52 rfl ?_ ?_
        · exact j_msk [true, true] (hk62 _ _ _)
        · refine j_iincE (ls2 := [some (.inl w5), some (.inl (wr (w6 + 4)))]) dJ6_numberOfTrailingZeros_0f7a4_55 rfl (by decide) rfl rfl ?_
          refine j_iload_n dJ6_numberOfTrailingZeros_0f7a4_58 rfl rfl ?_
          refine j_iconst dJ6_numberOfTrailingZeros_0f7a4_59 (inr_d rfl) ?_
          refine j_iushr dJ6_numberOfTrailingZeros_0f7a4_60 ?_
          refine j_ltv (fun v15 => ?_)
          refine j_istore_nE (ls2 := [some (.inl v15), some (.inl (wr (w6 + 4)))]) dJ6_numberOfTrailingZeros_0f7a4_61 rfl (by decide) rfl rfl ?_
          exact j_msk [true, true] (hk62 _ _ _)
      refine j_icmp_le (tgt := 49) dJ6_numberOfTrailingZeros_0f7a4_38 rfl ?_ ?_
      · exact j_msk [true, true] (hk49 _ _ _)
      · refine j_iincE (ls2 := [some (.inl w2), some (.inl (wr (w3 + 8)))]) dJ6_numberOfTrailingZeros_0f7a4_41 rfl (by decide) rfl rfl ?_
        refine j_iload_n dJ6_numberOfTrailingZeros_0f7a4_44 rfl rfl ?_
        refine j_bipush (v := 8) dJ6_numberOfTrailingZeros_0f7a4_45 (by decide +kernel) (inr_d rfl) ?_
        refine j_iushr dJ6_numberOfTrailingZeros_0f7a4_47 ?_
        refine j_ltv (fun v16 => ?_)
        refine j_istore_nE (ls2 := [some (.inl v16), some (.inl (wr (w3 + 8)))]) dJ6_numberOfTrailingZeros_0f7a4_48 rfl (by decide) rfl rfl ?_
        exact j_msk [true, true] (hk49 _ _ _)
    refine j_icmp_le (tgt := 34) dJ6_numberOfTrailingZeros_0f7a4_23 rfl ?_ ?_
    · exact j_msk [true, true] (hk34 _ _ _)
    · refine j_iincE (ls2 := [some (.inl v1), some (.inl (wr (1 + 16)))]) dJ6_numberOfTrailingZeros_0f7a4_26 rfl (by decide) rfl rfl ?_
      refine j_iload_n dJ6_numberOfTrailingZeros_0f7a4_29 rfl rfl ?_
      refine j_bipush (v := 16) dJ6_numberOfTrailingZeros_0f7a4_30 (by decide +kernel) (inr_d rfl) ?_
      refine j_iushr dJ6_numberOfTrailingZeros_0f7a4_32 ?_
      refine j_ltv (fun v17 => ?_)
      refine j_istore_nE (ls2 := [some (.inl v17), some (.inl (wr (1 + 16)))]) dJ6_numberOfTrailingZeros_0f7a4_33 rfl (by decide) rfl rfl ?_
      exact j_msk [true, true] (hk34 _ _ _)
  · refine j_iload_n dJ6_numberOfTrailingZeros_0f7a4_12 rfl rfl ?_
    refine j_bipush (v := 32) dJ6_numberOfTrailingZeros_0f7a4_13 (by decide +kernel) (inr_d rfl) ?_
    refine j_iand dJ6_numberOfTrailingZeros_0f7a4_15 ?_
    exact j_iret hq dJ6_numberOfTrailingZeros_0f7a4_16
abbrev rmX4_weighSets : Room := { frames := 2, cells := 0, slots := 0, locals := 43 }
theorem dX4_weighSets_0 : decode cX4_weighSets 0 = .ok (.aload_n 0, 1) := by decide +kernel
theorem dX4_weighSets_1 : decode cX4_weighSets 1 = .ok (.getfield 13, 3) := by decide +kernel
theorem dX4_weighSets_4 : decode cX4_weighSets 4 = .ok (.iconst 0, 1) := by decide +kernel
theorem dX4_weighSets_5 : decode cX4_weighSets 5 = .ok (.iconst 0, 1) := by decide +kernel
theorem dX4_weighSets_6 : decode cX4_weighSets 6 = .ok (.iastore, 1) := by decide +kernel
theorem dX4_weighSets_7 : decode cX4_weighSets 7 = .ok (.aload_n 0, 1) := by decide +kernel
theorem dX4_weighSets_8 : decode cX4_weighSets 8 = .ok (.getfield 17, 3) := by decide +kernel
theorem dX4_weighSets_11 : decode cX4_weighSets 11 = .ok (.iconst 0, 1) := by decide +kernel
theorem dX4_weighSets_12 : decode cX4_weighSets 12 = .ok (.iconst 0, 1) := by decide +kernel
theorem dX4_weighSets_13 : decode cX4_weighSets 13 = .ok (.iastore, 1) := by decide +kernel
theorem dX4_weighSets_14 : decode cX4_weighSets 14 = .ok (.iconst 1, 1) := by decide +kernel
theorem dX4_weighSets_15 : decode cX4_weighSets 15 = .ok (.istore_n 3, 1) := by decide +kernel
theorem dX4_weighSets_16 : decode cX4_weighSets 16 = .ok (.iload_n 3, 1) := by decide +kernel
theorem dX4_weighSets_17 : decode cX4_weighSets 17 = .ok (.iload_n 2, 1) := by decide +kernel
theorem dX4_weighSets_18 : decode cX4_weighSets 18 = .ok (.if_icmp .gt 111, 3) := by decide +kernel
theorem dX4_weighSets_21 : decode cX4_weighSets 21 = .ok (.iload_n 3, 1) := by decide +kernel
theorem dX4_weighSets_22 : decode cX4_weighSets 22 = .ok (.invokestatic 51, 3) := by decide +kernel
theorem dX4_weighSets_25 : decode cX4_weighSets 25 = .ok (.istore 4, 2) := by decide +kernel
theorem dX4_weighSets_27 : decode cX4_weighSets 27 = .ok (.aload_n 0, 1) := by decide +kernel
theorem dX4_weighSets_28 : decode cX4_weighSets 28 = .ok (.getfield 13, 3) := by decide +kernel
theorem dX4_weighSets_31 : decode cX4_weighSets 31 = .ok (.iload_n 3, 1) := by decide +kernel
theorem dX4_weighSets_32 : decode cX4_weighSets 32 = .ok (.aload_n 0, 1) := by decide +kernel
theorem dX4_weighSets_33 : decode cX4_weighSets 33 = .ok (.getfield 13, 3) := by decide +kernel
theorem dX4_weighSets_36 : decode cX4_weighSets 36 = .ok (.iload_n 3, 1) := by decide +kernel
theorem dX4_weighSets_37 : decode cX4_weighSets 37 = .ok (.iconst 1, 1) := by decide +kernel
theorem dX4_weighSets_38 : decode cX4_weighSets 38 = .ok (.iload 4, 2) := by decide +kernel
theorem dX4_weighSets_40 : decode cX4_weighSets 40 = .ok (.ishl, 1) := by decide +kernel
theorem dX4_weighSets_41 : decode cX4_weighSets 41 = .ok (.ixor, 1) := by decide +kernel
theorem dX4_weighSets_42 : decode cX4_weighSets 42 = .ok (.iaload, 1) := by decide +kernel
theorem dX4_weighSets_43 : decode cX4_weighSets 43 = .ok (.aload_n 1, 1) := by decide +kernel
theorem dX4_weighSets_44 : decode cX4_weighSets 44 = .ok (.getfield 56, 3) := by decide +kernel
theorem dX4_weighSets_47 : decode cX4_weighSets 47 = .ok (.iload 4, 2) := by decide +kernel
theorem dX4_weighSets_49 : decode cX4_weighSets 49 = .ok (.iaload, 1) := by decide +kernel
theorem dX4_weighSets_50 : decode cX4_weighSets 50 = .ok (.iadd, 1) := by decide +kernel
theorem dX4_weighSets_51 : decode cX4_weighSets 51 = .ok (.iastore, 1) := by decide +kernel
theorem dX4_weighSets_52 : decode cX4_weighSets 52 = .ok (.ldc 59, 2) := by decide +kernel
theorem dX4_weighSets_54 : decode cX4_weighSets 54 = .ok (.istore 5, 2) := by decide +kernel
theorem dX4_weighSets_56 : decode cX4_weighSets 56 = .ok (.iload 4, 2) := by decide +kernel
theorem dX4_weighSets_58 : decode cX4_weighSets 58 = .ok (.istore 6, 2) := by decide +kernel
theorem dX4_weighSets_60 : decode cX4_weighSets 60 = .ok (.iload 6, 2) := by decide +kernel
theorem dX4_weighSets_62 : decode cX4_weighSets 62 = .ok (.aload_n 1, 1) := by decide +kernel
theorem dX4_weighSets_63 : decode cX4_weighSets 63 = .ok (.getfield 29, 3) := by decide +kernel
theorem dX4_weighSets_66 : decode cX4_weighSets 66 = .ok (.if_icmp .ge 49, 3) := by decide +kernel
theorem dX4_weighSets_69 : decode cX4_weighSets 69 = .ok (.iload_n 3, 1) := by decide +kernel
theorem dX4_weighSets_70 : decode cX4_weighSets 70 = .ok (.iload 6, 2) := by decide +kernel
theorem dX4_weighSets_72 : decode cX4_weighSets 72 = .ok (.invokestatic 60, 3) := by decide +kernel
theorem dX4_weighSets_75 : decode cX4_weighSets 75 = .ok (.ifCond .eq 34, 3) := by decide +kernel
theorem dX4_weighSets_78 : decode cX4_weighSets 78 = .ok (.iload 5, 2) := by decide +kernel
theorem dX4_weighSets_80 : decode cX4_weighSets 80 = .ok (.aload_n 0, 1) := by decide +kernel
theorem dX4_weighSets_81 : decode cX4_weighSets 81 = .ok (.getfield 17, 3) := by decide +kernel
theorem dX4_weighSets_84 : decode cX4_weighSets 84 = .ok (.iload_n 3, 1) := by decide +kernel
theorem dX4_weighSets_85 : decode cX4_weighSets 85 = .ok (.iconst 1, 1) := by decide +kernel
theorem dX4_weighSets_86 : decode cX4_weighSets 86 = .ok (.iload 6, 2) := by decide +kernel
theorem dX4_weighSets_88 : decode cX4_weighSets 88 = .ok (.ishl, 1) := by decide +kernel
theorem dX4_weighSets_89 : decode cX4_weighSets 89 = .ok (.ixor, 1) := by decide +kernel
theorem dX4_weighSets_90 : decode cX4_weighSets 90 = .ok (.iaload, 1) := by decide +kernel
theorem dX4_weighSets_91 : decode cX4_weighSets 91 = .ok (.aload_n 1, 1) := by decide +kernel
theorem dX4_weighSets_92 : decode cX4_weighSets 92 = .ok (.iload 6, 2) := by decide +kernel
theorem dX4_weighSets_94 : decode cX4_weighSets 94 = .ok (.aload_n 0, 1) := by decide +kernel
theorem dX4_weighSets_95 : decode cX4_weighSets 95 = .ok (.getfield 13, 3) := by decide +kernel
theorem dX4_weighSets_98 : decode cX4_weighSets 98 = .ok (.iload_n 3, 1) := by decide +kernel
theorem dX4_weighSets_99 : decode cX4_weighSets 99 = .ok (.iaload, 1) := by decide +kernel
theorem dX4_weighSets_100 : decode cX4_weighSets 100 = .ok (.invokevirtual 64, 3) := by decide +kernel
theorem dX4_weighSets_103 : decode cX4_weighSets 103 = .ok (.iadd, 1) := by decide +kernel
theorem dX4_weighSets_104 : decode cX4_weighSets 104 = .ok (.invokestatic 68, 3) := by decide +kernel
theorem dX4_weighSets_107 : decode cX4_weighSets 107 = .ok (.istore 5, 2) := by decide +kernel
theorem dX4_weighSets_109 : decode cX4_weighSets 109 = .ok (.iinc 6 1, 3) := by decide +kernel
theorem dX4_weighSets_112 : decode cX4_weighSets 112 = .ok (.goto (-52), 3) := by decide +kernel
theorem dX4_weighSets_115 : decode cX4_weighSets 115 = .ok (.aload_n 0, 1) := by decide +kernel
theorem dX4_weighSets_116 : decode cX4_weighSets 116 = .ok (.getfield 17, 3) := by decide +kernel
theorem dX4_weighSets_119 : decode cX4_weighSets 119 = .ok (.iload_n 3, 1) := by decide +kernel
theorem dX4_weighSets_120 : decode cX4_weighSets 120 = .ok (.iload 5, 2) := by decide +kernel
theorem dX4_weighSets_122 : decode cX4_weighSets 122 = .ok (.iastore, 1) := by decide +kernel
theorem dX4_weighSets_123 : decode cX4_weighSets 123 = .ok (.iinc 3 1, 3) := by decide +kernel
theorem dX4_weighSets_126 : decode cX4_weighSets 126 = .ok (.goto (-110), 3) := by decide +kernel
theorem dX4_weighSets_129 : decode cX4_weighSets 129 = .ok (.return_, 1) := by decide +kernel
def LX4_weighSets_60 (c2 : Int) (c3 : Int) (k115 : Int → Mem → Option Res) : Nat → Int → Int → Mem → Option Res
  | 0 => fun _ _ _ => none
  | n + 1 => fun x5 x6 s => (if s 89 4 ≤ x6 then
 k115 x5 s
 else
 bnd (fX10_isIn c3 x6 s) (fun r8 s9 =>
 (if r8 = 0 then
 LX4_weighSets_60 c2 c3 k115 n x5 (wr (x6 + 1)) s9
 else
 rd (s9 96) (ixo c3 (ish 1 x6)) 256 (fun v10 =>
 rd (s9 95) c3 256 (fun v11 =>
 bnd (fX3_lateness x6 v11 s9) (fun r12 s13 =>
 lt (mn x5 (wr (v10 + r12))) (fun v14 =>
 LX4_weighSets_60 c2 c3 k115 n v14 (wr (x6 + 1)) s13)))))))
def LX4_weighSets_16 (c2 : Int) (k129 : Mem → Option Res) : Nat → Int → Mem → Option Res
  | 0 => fun _ _ => none
  | n + 1 => fun x3 s => (if c2 < x3 then
 k129 s
 else
 bnd (fJ6_numberOfTrailingZeros_0f7a4 x3 s) (fun r3 s4 =>
 rd (s4 95) (ixo x3 (ish 1 r3)) 256 (fun v5 =>
 rd (s4 90) r3 8 (fun v6 =>
 ST s4 95 x3 256 (wr (v5 + v6)) (fun s7 =>
 LX4_weighSets_60 c2 x3 (fun y16 s15 =>
 ST s15 96 x3 256 y16 (fun s17 =>
 LX4_weighSets_16 c2 k129 n (wr (x3 + 1)) s17)) FU 2147483647 r3 s7)))))
def fX4_weighSets (a2 : Int) (s0 : Mem) : Option Res :=
 ST s0 95 0 256 0 (fun s1 =>
 ST s1 96 0 256 0 (fun s2 =>
 LX4_weighSets_16 a2 (fun s18 =>
 some (0, s18)) FU 1 s2))
set_option maxRecDepth 100000 in
set_option maxHeartbeats 4000000 in
theorem jLX4_weighSets_60 {K : KT} (hq : KV K none) (c2 : Int) (c3 : Int) (k115 : Int → Mem → Option Res) (hk115 : ∀ (y5 : Int) (s : Mem), J K rmX4_weighSets cX4_weighSets RX4 7 115 [some (.inr (.inr 94)), some (.inr (.inr 89)), some (.inl c2), some (.inl c3), none, some (.inl y5), none] [] s (k115 y5 s)) : ∀ (n : Nat) (x5 : Int) (x6 : Int) (s : Mem), J K rmX4_weighSets cX4_weighSets RX4 7 60 [some (.inr (.inr 94)), some (.inr (.inr 89)), some (.inl c2), some (.inl c3), none, some (.inl x5), some (.inl x6)] [] s (LX4_weighSets_60 c2 c3 k115 n x5 x6 s) := by
  intro n
  induction n with
  | zero => intros; exact J_none
  | succ n ih =>
    intro x5 x6 s
    show J K _ _ _ _ _ _ _ _ (LX4_weighSets_60 c2 c3 k115 (n + 1) x5 x6 s)
    simp only [LX4_weighSets_60]
    refine j_iload dX4_weighSets_60 rfl ?_
    refine j_aload_n dX4_weighSets_62 rfl rfl ?_
    refine j_getI fl_RX4_29 sh_89 rfl dX4_weighSets_63 ?_
    refine j_icmp_ge (tgt := 115) dX4_weighSets_66 rfl ?_ ?_
    · exact j_msk [true, true, true, true, false, true, false] (hk115 _ _)
    · refine j_iload_n dX4_weighSets_69 rfl rfl ?_
      refine j_iload dX4_weighSets_70 rfl ?_
      refine j_callNi (mX10_isIn (kl K) (kD K) (kad K) (kcA K) c3 x6 s) cw_RX4_60 ⟨rfl, rfl, by decide, by decide⟩ rfl rfl (Nat.le_of_ble_eq_true rfl) dX4_weighSets_72 (fun r8 s9 => ?_)
      refine j_if_eq (tgt := 109) dX4_weighSets_75 rfl ?_ ?_
      · refine j_iincE (ls2 := [some (.inr (.inr 94)), some (.inr (.inr 89)), some (.inl c2), some (.inl c3), none, some (.inl x5), some (.inl (wr (x6 + 1)))]) dX4_weighSets_109 rfl (by decide) rfl rfl ?_
        refine j_goto (tgt := 60) dX4_weighSets_112 rfl ?_
        exact j_msk [true, true, true, true, false, true, true] (ih _ _ _)
      · refine j_iload dX4_weighSets_78 rfl ?_
        refine j_aload_n dX4_weighSets_80 rfl rfl ?_
        refine j_getR fl_RX4_17 sh_94 rfl dX4_weighSets_81 ?_
        refine j_iload_n dX4_weighSets_84 rfl rfl ?_
        refine j_iconst dX4_weighSets_85 (inr_d rfl) ?_
        refine j_iload dX4_weighSets_86 rfl ?_
        refine j_ishl dX4_weighSets_88 ?_
        refine j_ixor dX4_weighSets_89 ?_
        refine j_iald sh_96 dX4_weighSets_90 (fun v10 => ?_)
        refine j_aload_n dX4_weighSets_91 rfl rfl ?_
        refine j_iload dX4_weighSets_92 rfl ?_
        refine j_aload_n dX4_weighSets_94 rfl rfl ?_
        refine j_getR fl_RX4_13 sh_94 rfl dX4_weighSets_95 ?_
        refine j_iload_n dX4_weighSets_98 rfl rfl ?_
        refine j_iald sh_95 dX4_weighSets_99 (fun v11 => ?_)
        refine j_callVi (mX3_lateness (kl K) (kD K) (kad K) (kcA K) x6 v11 s9) cw_RX4_64 sh_89 rfl ⟨rfl, rfl, by decide, by decide⟩ rfl rfl (Nat.le_of_ble_eq_true rfl) dX4_weighSets_100 (fun r12 s13 => ?_)
        refine j_iadd dX4_weighSets_103 ?_
        refine j_min mw_RX4_68 ⟨by decide, Nat.le_of_ble_eq_true rfl⟩ dX4_weighSets_104 ?_
        refine j_ltv (fun v14 => ?_)
        refine j_istoreE (ls2 := [some (.inr (.inr 94)), some (.inr (.inr 89)), some (.inl c2), some (.inl c3), none, some (.inl v14), some (.inl x6)]) dX4_weighSets_107 (by decide) rfl rfl ?_
        refine j_iincE (ls2 := [some (.inr (.inr 94)), some (.inr (.inr 89)), some (.inl c2), some (.inl c3), none, some (.inl v14), some (.inl (wr (x6 + 1)))]) dX4_weighSets_109 rfl (by decide) rfl rfl ?_
        refine j_goto (tgt := 60) dX4_weighSets_112 rfl ?_
        exact j_msk [true, true, true, true, false, true, true] (ih _ _ _)
set_option maxRecDepth 100000 in
set_option maxHeartbeats 4000000 in
theorem jLX4_weighSets_16 {K : KT} (hq : KV K none) (c2 : Int) (k129 : Mem → Option Res) (hk129 : ∀ (s : Mem), J K rmX4_weighSets cX4_weighSets RX4 7 129 [none, none, none, none, none, none, none] [] s (k129 s)) : ∀ (n : Nat) (x3 : Int) (s : Mem), J K rmX4_weighSets cX4_weighSets RX4 7 16 [some (.inr (.inr 94)), some (.inr (.inr 89)), some (.inl c2), some (.inl x3), none, none, none] [] s (LX4_weighSets_16 c2 k129 n x3 s) := by
  intro n
  induction n with
  | zero => intros; exact J_none
  | succ n ih =>
    intro x3 s
    show J K _ _ _ _ _ _ _ _ (LX4_weighSets_16 c2 k129 (n + 1) x3 s)
    simp only [LX4_weighSets_16]
    refine j_iload_n dX4_weighSets_16 rfl rfl ?_
    refine j_iload_n dX4_weighSets_17 rfl rfl ?_
    refine j_icmp_gt (tgt := 129) dX4_weighSets_18 rfl ?_ ?_
    · exact j_msk [false, false, false, false, false, false, false] (hk129 _)
    · refine j_iload_n dX4_weighSets_21 rfl rfl ?_
      refine j_callSi (mJ6_numberOfTrailingZeros_0f7a4 (kl K) (kD K) (kad K) (kcA K) x3 s) cw_RX4_51 ⟨rfl, rfl, by decide, by decide⟩ rfl rfl (Nat.le_of_ble_eq_true rfl) dX4_weighSets_22 (fun r3 s4 => ?_)
      refine j_istoreE (ls2 := [some (.inr (.inr 94)), some (.inr (.inr 89)), some (.inl c2), some (.inl x3), some (.inl r3), none, none]) dX4_weighSets_25 (by decide) rfl rfl ?_
      refine j_aload_n dX4_weighSets_27 rfl rfl ?_
      refine j_getR fl_RX4_13 sh_94 rfl dX4_weighSets_28 ?_
      refine j_iload_n dX4_weighSets_31 rfl rfl ?_
      refine j_aload_n dX4_weighSets_32 rfl rfl ?_
      refine j_getR fl_RX4_13 sh_94 rfl dX4_weighSets_33 ?_
      refine j_iload_n dX4_weighSets_36 rfl rfl ?_
      refine j_iconst dX4_weighSets_37 (inr_d rfl) ?_
      refine j_iload dX4_weighSets_38 rfl ?_
      refine j_ishl dX4_weighSets_40 ?_
      refine j_ixor dX4_weighSets_41 ?_
      refine j_iald sh_95 dX4_weighSets_42 (fun v5 => ?_)
      refine j_aload_n dX4_weighSets_43 rfl rfl ?_
      refine j_getR fl_RX4_56 sh_89 rfl dX4_weighSets_44 ?_
      refine j_iload dX4_weighSets_47 rfl ?_
      refine j_iald sh_90 dX4_weighSets_49 (fun v6 => ?_)
      refine j_iadd dX4_weighSets_50 ?_
      refine j_iast sh_95 dX4_weighSets_51 (fun s7 => ?_)
      refine j_ldc (v := 2147483647) dX4_weighSets_52 cst_RX4_59 (inr_d rfl) ?_
      refine j_istoreE (ls2 := [some (.inr (.inr 94)), some (.inr (.inr 89)), some (.inl c2), some (.inl x3), some (.inl r3), some (.inl 2147483647), none]) dX4_weighSets_54 (by decide) rfl rfl ?_
      refine j_iload dX4_weighSets_56 rfl ?_
      refine j_istoreE (ls2 := [some (.inr (.inr 94)), some (.inr (.inr 89)), some (.inl c2), some (.inl x3), some (.inl r3), some (.inl 2147483647), some (.inl r3)]) dX4_weighSets_58 (by decide) rfl rfl ?_
      refine j_msk [true, true, true, true, false, true, true] (jLX4_weighSets_60 hq _ _ _ (fun y16 s15 => ?_) _ _ _ _)
      refine j_aload_n dX4_weighSets_115 rfl rfl ?_
      refine j_getR fl_RX4_17 sh_94 rfl dX4_weighSets_116 ?_
      refine j_iload_n dX4_weighSets_119 rfl rfl ?_
      refine j_iload dX4_weighSets_120 rfl ?_
      refine j_iast sh_96 dX4_weighSets_122 (fun s17 => ?_)
      refine j_iincE (ls2 := [some (.inr (.inr 94)), some (.inr (.inr 89)), some (.inl c2), some (.inl (wr (x3 + 1))), none, some (.inl y16), none]) dX4_weighSets_123 rfl (by decide) rfl rfl ?_
      refine j_goto (tgt := 16) dX4_weighSets_126 rfl ?_
      exact j_msk [true, true, true, true, false, false, false] (ih _ _)
set_option maxRecDepth 100000 in
set_option maxHeartbeats 4000000 in
theorem mX4_weighSets (l : Launch) (D : va_G) (ad : Nat → Nat) (cA : Nat → ClassId) (a2 : Int) (s0 : Mem) : MCv l D ad cA yX4_weighSets cX4_weighSets 7 none rmX4_weighSets [.inr (.inr 94), .inr (.inr 89), .inl a2] s0 (fX4_weighSets a2 s0) := by
  refine MCv_ofE (own := RX4) (ls := [some (.inr (.inr 94)), some (.inr (.inr 89)), some (.inl a2), none, none, none, none]) 4 (by decide +kernel) rfl rfl (fun _ => Nat.le_of_ble_eq_true rfl) (fun K hq => ?_)
  unfold fX4_weighSets
  refine j_aload_n dX4_weighSets_0 rfl rfl ?_
  refine j_getR fl_RX4_13 sh_94 rfl dX4_weighSets_1 ?_
  refine j_iconst dX4_weighSets_4 (inr_d rfl) ?_
  refine j_iconst dX4_weighSets_5 (inr_d rfl) ?_
  refine j_iast sh_95 dX4_weighSets_6 (fun s1 => ?_)
  refine j_aload_n dX4_weighSets_7 rfl rfl ?_
  refine j_getR fl_RX4_17 sh_94 rfl dX4_weighSets_8 ?_
  refine j_iconst dX4_weighSets_11 (inr_d rfl) ?_
  refine j_iconst dX4_weighSets_12 (inr_d rfl) ?_
  refine j_iast sh_96 dX4_weighSets_13 (fun s2 => ?_)
  refine j_iconst dX4_weighSets_14 (inr_d rfl) ?_
  refine j_istore_nE (ls2 := [some (.inr (.inr 94)), some (.inr (.inr 89)), some (.inl a2), some (.inl 1), none, none, none]) dX4_weighSets_15 rfl (by decide) rfl rfl ?_
  refine j_msk [true, true, true, true, false, false, false] (jLX4_weighSets_16 hq _ _ (fun s18 => ?_) _ _ _)
  exact j_vret hq dX4_weighSets_129
abbrev rmX4_lateWith : Room := { frames := 2, cells := 0, slots := 0, locals := 43 }
theorem dX4_lateWith_0 : decode cX4_lateWith 0 = .ok (.aload_n 0, 1) := by decide +kernel
theorem dX4_lateWith_1 : decode cX4_lateWith 1 = .ok (.getfield 13, 3) := by decide +kernel
theorem dX4_lateWith_4 : decode cX4_lateWith 4 = .ok (.iload_n 2, 1) := by decide +kernel
theorem dX4_lateWith_5 : decode cX4_lateWith 5 = .ok (.iaload, 1) := by decide +kernel
theorem dX4_lateWith_6 : decode cX4_lateWith 6 = .ok (.aload_n 0, 1) := by decide +kernel
theorem dX4_lateWith_7 : decode cX4_lateWith 7 = .ok (.getfield 13, 3) := by decide +kernel
theorem dX4_lateWith_10 : decode cX4_lateWith 10 = .ok (.iload_n 3, 1) := by decide +kernel
theorem dX4_lateWith_11 : decode cX4_lateWith 11 = .ok (.iaload, 1) := by decide +kernel
theorem dX4_lateWith_12 : decode cX4_lateWith 12 = .ok (.isub, 1) := by decide +kernel
theorem dX4_lateWith_13 : decode cX4_lateWith 13 = .ok (.aload_n 1, 1) := by decide +kernel
theorem dX4_lateWith_14 : decode cX4_lateWith 14 = .ok (.getfield 56, 3) := by decide +kernel
theorem dX4_lateWith_17 : decode cX4_lateWith 17 = .ok (.iload 4, 2) := by decide +kernel
theorem dX4_lateWith_19 : decode cX4_lateWith 19 = .ok (.iaload, 1) := by decide +kernel
theorem dX4_lateWith_20 : decode cX4_lateWith 20 = .ok (.iadd, 1) := by decide +kernel
theorem dX4_lateWith_21 : decode cX4_lateWith 21 = .ok (.istore 5, 2) := by decide +kernel
theorem dX4_lateWith_23 : decode cX4_lateWith 23 = .ok (.aload_n 1, 1) := by decide +kernel
theorem dX4_lateWith_24 : decode cX4_lateWith 24 = .ok (.iload 4, 2) := by decide +kernel
theorem dX4_lateWith_26 : decode cX4_lateWith 26 = .ok (.iload 5, 2) := by decide +kernel
theorem dX4_lateWith_28 : decode cX4_lateWith 28 = .ok (.invokevirtual 64, 3) := by decide +kernel
theorem dX4_lateWith_31 : decode cX4_lateWith 31 = .ok (.aload_n 0, 1) := by decide +kernel
theorem dX4_lateWith_32 : decode cX4_lateWith 32 = .ok (.getfield 20, 3) := by decide +kernel
theorem dX4_lateWith_35 : decode cX4_lateWith 35 = .ok (.iload_n 3, 1) := by decide +kernel
theorem dX4_lateWith_36 : decode cX4_lateWith 36 = .ok (.iconst 1, 1) := by decide +kernel
theorem dX4_lateWith_37 : decode cX4_lateWith 37 = .ok (.iload 4, 2) := by decide +kernel
theorem dX4_lateWith_39 : decode cX4_lateWith 39 = .ok (.ishl, 1) := by decide +kernel
theorem dX4_lateWith_40 : decode cX4_lateWith 40 = .ok (.ixor, 1) := by decide +kernel
theorem dX4_lateWith_41 : decode cX4_lateWith 41 = .ok (.iaload, 1) := by decide +kernel
theorem dX4_lateWith_42 : decode cX4_lateWith 42 = .ok (.iadd, 1) := by decide +kernel
theorem dX4_lateWith_43 : decode cX4_lateWith 43 = .ok (.ireturn, 1) := by decide +kernel
def fX4_lateWith (a2 : Int) (a3 : Int) (a4 : Int) (s0 : Mem) : Option Res :=
 rd (s0 95) a2 256 (fun v1 =>
 rd (s0 95) a3 256 (fun v2 =>
 rd (s0 90) a4 8 (fun v3 =>
 lt (wr ((wr (v1 - v2)) + v3)) (fun v4 =>
 bnd (fX3_lateness a4 v4 s0) (fun r5 s6 =>
 rd (s6 97) (ixo a3 (ish 1 a4)) 256 (fun v7 =>
 some (wr (r5 + v7), s6)))))))
set_option maxRecDepth 100000 in
set_option maxHeartbeats 4000000 in
theorem mX4_lateWith (l : Launch) (D : va_G) (ad : Nat → Nat) (cA : Nat → ClassId) (a2 : Int) (a3 : Int) (a4 : Int) (s0 : Mem) : MCi l D ad cA yX4_lateWith cX4_lateWith 6 (some .int) rmX4_lateWith [.inr (.inr 94), .inr (.inr 89), .inl a2, .inl a3, .inl a4] s0 (fX4_lateWith a2 a3 a4 s0) := by
  refine MCi_ofE (own := RX4) (ls := [some (.inr (.inr 94)), some (.inr (.inr 89)), some (.inl a2), some (.inl a3), some (.inl a4), none]) 1 (by decide +kernel) rfl rfl (fun _ => Nat.le_of_ble_eq_true rfl) (fun K hq => ?_)
  unfold fX4_lateWith
  refine j_aload_n dX4_lateWith_0 rfl rfl ?_
  refine j_getR fl_RX4_13 sh_94 rfl dX4_lateWith_1 ?_
  refine j_iload_n dX4_lateWith_4 rfl rfl ?_
  refine j_iald sh_95 dX4_lateWith_5 (fun v1 => ?_)
  refine j_aload_n dX4_lateWith_6 rfl rfl ?_
  refine j_getR fl_RX4_13 sh_94 rfl dX4_lateWith_7 ?_
  refine j_iload_n dX4_lateWith_10 rfl rfl ?_
  refine j_iald sh_95 dX4_lateWith_11 (fun v2 => ?_)
  refine j_isub dX4_lateWith_12 ?_
  refine j_aload_n dX4_lateWith_13 rfl rfl ?_
  refine j_getR fl_RX4_56 sh_89 rfl dX4_lateWith_14 ?_
  refine j_iload dX4_lateWith_17 rfl ?_
  refine j_iald sh_90 dX4_lateWith_19 (fun v3 => ?_)
  refine j_iadd dX4_lateWith_20 ?_
  refine j_ltv (fun v4 => ?_)
  refine j_istoreE (ls2 := [some (.inr (.inr 94)), some (.inr (.inr 89)), some (.inl a2), some (.inl a3), some (.inl a4), some (.inl v4)]) dX4_lateWith_21 (by decide) rfl rfl ?_
  refine j_aload_n dX4_lateWith_23 rfl rfl ?_
  refine j_iload dX4_lateWith_24 rfl ?_
  refine j_iload dX4_lateWith_26 rfl ?_
  refine j_callVi (mX3_lateness (kl K) (kD K) (kad K) (kcA K) a4 v4 s0) cw_RX4_64 sh_89 rfl ⟨rfl, rfl, by decide, by decide⟩ rfl rfl (Nat.le_of_ble_eq_true rfl) dX4_lateWith_28 (fun r5 s6 => ?_)
  refine j_aload_n dX4_lateWith_31 rfl rfl ?_
  refine j_getR fl_RX4_20 sh_94 rfl dX4_lateWith_32 ?_
  refine j_iload_n dX4_lateWith_35 rfl rfl ?_
  refine j_iconst dX4_lateWith_36 (inr_d rfl) ?_
  refine j_iload dX4_lateWith_37 rfl ?_
  refine j_ishl dX4_lateWith_39 ?_
  refine j_ixor dX4_lateWith_40 ?_
  refine j_iald sh_97 dX4_lateWith_41 (fun v7 => ?_)
  refine j_iadd dX4_lateWith_42 ?_
  exact j_iret hq dX4_lateWith_43
abbrev rmX4_bestNext : Room := { frames := 3, cells := 0, slots := 0, locals := 68 }
theorem dX4_bestNext_0 : decode cX4_bestNext 0 = .ok (.iconst 0, 1) := by decide +kernel
theorem dX4_bestNext_1 : decode cX4_bestNext 1 = .ok (.istore 4, 2) := by decide +kernel
theorem dX4_bestNext_3 : decode cX4_bestNext 3 = .ok (.ldc 59, 2) := by decide +kernel
theorem dX4_bestNext_5 : decode cX4_bestNext 5 = .ok (.istore 5, 2) := by decide +kernel
theorem dX4_bestNext_7 : decode cX4_bestNext 7 = .ok (.iconst 0, 1) := by decide +kernel
theorem dX4_bestNext_8 : decode cX4_bestNext 8 = .ok (.istore 6, 2) := by decide +kernel
theorem dX4_bestNext_10 : decode cX4_bestNext 10 = .ok (.iload 6, 2) := by decide +kernel
theorem dX4_bestNext_12 : decode cX4_bestNext 12 = .ok (.aload_n 1, 1) := by decide +kernel
theorem dX4_bestNext_13 : decode cX4_bestNext 13 = .ok (.getfield 29, 3) := by decide +kernel
theorem dX4_bestNext_16 : decode cX4_bestNext 16 = .ok (.if_icmp .ge 44, 3) := by decide +kernel
theorem dX4_bestNext_19 : decode cX4_bestNext 19 = .ok (.iload_n 3, 1) := by decide +kernel
theorem dX4_bestNext_20 : decode cX4_bestNext 20 = .ok (.iload 6, 2) := by decide +kernel
theorem dX4_bestNext_22 : decode cX4_bestNext 22 = .ok (.invokestatic 60, 3) := by decide +kernel
theorem dX4_bestNext_25 : decode cX4_bestNext 25 = .ok (.ifCond .eq 29, 3) := by decide +kernel
theorem dX4_bestNext_28 : decode cX4_bestNext 28 = .ok (.aload_n 0, 1) := by decide +kernel
theorem dX4_bestNext_29 : decode cX4_bestNext 29 = .ok (.aload_n 1, 1) := by decide +kernel
theorem dX4_bestNext_30 : decode cX4_bestNext 30 = .ok (.iload_n 2, 1) := by decide +kernel
theorem dX4_bestNext_31 : decode cX4_bestNext 31 = .ok (.iload_n 3, 1) := by decide +kernel
theorem dX4_bestNext_32 : decode cX4_bestNext 32 = .ok (.iload 6, 2) := by decide +kernel
theorem dX4_bestNext_34 : decode cX4_bestNext 34 = .ok (.invokevirtual 83, 3) := by decide +kernel
theorem dX4_bestNext_37 : decode cX4_bestNext 37 = .ok (.istore 7, 2) := by decide +kernel
theorem dX4_bestNext_39 : decode cX4_bestNext 39 = .ok (.iload 7, 2) := by decide +kernel
theorem dX4_bestNext_41 : decode cX4_bestNext 41 = .ok (.iload 5, 2) := by decide +kernel
theorem dX4_bestNext_43 : decode cX4_bestNext 43 = .ok (.if_icmp .ge 11, 3) := by decide +kernel
theorem dX4_bestNext_46 : decode cX4_bestNext 46 = .ok (.iload 7, 2) := by decide +kernel
theorem dX4_bestNext_48 : decode cX4_bestNext 48 = .ok (.istore 5, 2) := by decide +kernel
theorem dX4_bestNext_50 : decode cX4_bestNext 50 = .ok (.iload 6, 2) := by decide +kernel
theorem dX4_bestNext_52 : decode cX4_bestNext 52 = .ok (.istore 4, 2) := by decide +kernel
theorem dX4_bestNext_54 : decode cX4_bestNext 54 = .ok (.iinc 6 1, 3) := by decide +kernel
theorem dX4_bestNext_57 : decode cX4_bestNext 57 = .ok (.goto (-47), 3) := by decide +kernel
theorem dX4_bestNext_60 : decode cX4_bestNext 60 = .ok (.iload 4, 2) := by decide +kernel
theorem dX4_bestNext_62 : decode cX4_bestNext 62 = .ok (.ireturn, 1) := by decide +kernel
def LX4_bestNext_10 (c2 : Int) (c3 : Int) (k60 : Int → Mem → Option Res) : Nat → Int → Int → Int → Mem → Option Res
  | 0 => fun _ _ _ _ => none
  | n + 1 => fun x4 x5 x6 s => (if s 89 4 ≤ x6 then
 k60 x4 s
 else
 bnd (fX10_isIn c3 x6 s) (fun r1 s2 =>
 (if r1 = 0 then
 LX4_bestNext_10 c2 c3 k60 n x4 x5 (wr (x6 + 1)) s2
 else
 bnd (fX4_lateWith c2 c3 x6 s2) (fun r3 s4 =>
 (if x5 ≤ r3 then
 LX4_bestNext_10 c2 c3 k60 n x4 x5 (wr (x6 + 1)) s4
 else
 LX4_bestNext_10 c2 c3 k60 n x6 r3 (wr (x6 + 1)) s4)))))
def fX4_bestNext (a2 : Int) (a3 : Int) (s0 : Mem) : Option Res :=
 LX4_bestNext_10 a2 a3 (fun y6 s5 =>
 some (y6, s5)) FU 0 2147483647 0 s0
set_option maxRecDepth 100000 in
set_option maxHeartbeats 4000000 in
theorem jLX4_bestNext_10 {K : KT} (hq : KI K (some .int)) (c2 : Int) (c3 : Int) (k60 : Int → Mem → Option Res) (hk60 : ∀ (y4 : Int) (s : Mem), J K rmX4_bestNext cX4_bestNext RX4 8 60 [none, none, none, none, some (.inl y4), none, none, none] [] s (k60 y4 s)) : ∀ (n : Nat) (x4 : Int) (x5 : Int) (x6 : Int) (s : Mem), J K rmX4_bestNext cX4_bestNext RX4 8 10 [some (.inr (.inr 94)), some (.inr (.inr 89)), some (.inl c2), some (.inl c3), some (.inl x4), some (.inl x5), some (.inl x6), none] [] s (LX4_bestNext_10 c2 c3 k60 n x4 x5 x6 s) := by
  intro n
  induction n with
  | zero => intros; exact J_none
  | succ n ih =>
    intro x4 x5 x6 s
    show J K _ _ _ _ _ _ _ _ (LX4_bestNext_10 c2 c3 k60 (n + 1) x4 x5 x6 s)
    simp only [LX4_bestNext_10]
    refine j_iload dX4_bestNext_10 rfl ?_
    refine j_aload_n dX4_bestNext_12 rfl rfl ?_
    refine j_getI fl_RX4_29 sh_89 rfl dX4_bestNext_13 ?_
    refine j_icmp_ge (tgt := 60) dX4_bestNext_16 rfl ?_ ?_
    · exact j_msk [false, false, false, false, true, false, false, false] (hk60 _ _)
    · refine j_iload_n dX4_bestNext_19 rfl rfl ?_
      refine j_iload dX4_bestNext_20 rfl ?_
      refine j_callNi (mX10_isIn (kl K) (kD K) (kad K) (kcA K) c3 x6 s) cw_RX4_60 ⟨rfl, rfl, by decide, by decide⟩ rfl rfl (Nat.le_of_ble_eq_true rfl) dX4_bestNext_22 (fun r1 s2 => ?_)
      refine j_if_eq (tgt := 54) dX4_bestNext_25 rfl ?_ ?_
      · refine j_iincE (ls2 := [some (.inr (.inr 94)), some (.inr (.inr 89)), some (.inl c2), some (.inl c3), some (.inl x4), some (.inl x5), some (.inl (wr (x6 + 1))), none]) dX4_bestNext_54 rfl (by decide) rfl rfl ?_
        refine j_goto (tgt := 10) dX4_bestNext_57 rfl ?_
        exact j_msk [true, true, true, true, true, true, true, false] (ih _ _ _ _)
      · refine j_aload_n dX4_bestNext_28 rfl rfl ?_
        refine j_aload_n dX4_bestNext_29 rfl rfl ?_
        refine j_iload_n dX4_bestNext_30 rfl rfl ?_
        refine j_iload_n dX4_bestNext_31 rfl rfl ?_
        refine j_iload dX4_bestNext_32 rfl ?_
        refine j_callVi (mX4_lateWith (kl K) (kD K) (kad K) (kcA K) c2 c3 x6 s2) cw_RX4_83 sh_94 rfl ⟨rfl, rfl, by decide, by decide⟩ rfl rfl (Nat.le_of_ble_eq_true rfl) dX4_bestNext_34 (fun r3 s4 => ?_)
        refine j_istoreE (ls2 := [some (.inr (.inr 94)), some (.inr (.inr 89)), some (.inl c2), some (.inl c3), some (.inl x4), some (.inl x5), some (.inl x6), some (.inl r3)]) dX4_bestNext_37 (by decide) rfl rfl ?_
        refine j_iload dX4_bestNext_39 rfl ?_
        refine j_iload dX4_bestNext_41 rfl ?_
        refine j_icmp_ge (tgt := 54) dX4_bestNext_43 rfl ?_ ?_
        · refine j_iincE (ls2 := [some (.inr (.inr 94)), some (.inr (.inr 89)), some (.inl c2), some (.inl c3), some (.inl x4), some (.inl x5), some (.inl (wr (x6 + 1))), some (.inl r3)]) dX4_bestNext_54 rfl (by decide) rfl rfl ?_
          refine j_goto (tgt := 10) dX4_bestNext_57 rfl ?_
          exact j_msk [true, true, true, true, true, true, true, false] (ih _ _ _ _)
        · refine j_iload dX4_bestNext_46 rfl ?_
          refine j_istoreE (ls2 := [some (.inr (.inr 94)), some (.inr (.inr 89)), some (.inl c2), some (.inl c3), some (.inl x4), some (.inl r3), some (.inl x6), some (.inl r3)]) dX4_bestNext_48 (by decide) rfl rfl ?_
          refine j_iload dX4_bestNext_50 rfl ?_
          refine j_istoreE (ls2 := [some (.inr (.inr 94)), some (.inr (.inr 89)), some (.inl c2), some (.inl c3), some (.inl x6), some (.inl r3), some (.inl x6), some (.inl r3)]) dX4_bestNext_52 (by decide) rfl rfl ?_
          refine j_iincE (ls2 := [some (.inr (.inr 94)), some (.inr (.inr 89)), some (.inl c2), some (.inl c3), some (.inl x6), some (.inl r3), some (.inl (wr (x6 + 1))), some (.inl r3)]) dX4_bestNext_54 rfl (by decide) rfl rfl ?_
          refine j_goto (tgt := 10) dX4_bestNext_57 rfl ?_
          exact j_msk [true, true, true, true, true, true, true, false] (ih _ _ _ _)
set_option maxRecDepth 100000 in
set_option maxHeartbeats 4000000 in
theorem mX4_bestNext (l : Launch) (D : va_G) (ad : Nat → Nat) (cA : Nat → ClassId) (a2 : Int) (a3 : Int) (s0 : Mem) : MCi l D ad cA yX4_bestNext cX4_bestNext 8 (some .int) rmX4_bestNext [.inr (.inr 94), .inr (.inr 89), .inl a2, .inl a3] s0 (fX4_bestNext a2 a3 s0) := by
  refine MCi_ofE (own := RX4) (ls := [some (.inr (.inr 94)), some (.inr (.inr 89)), some (.inl a2), some (.inl a3), none, none, none, none]) 4 (by decide +kernel) rfl rfl (fun _ => Nat.le_of_ble_eq_true rfl) (fun K hq => ?_)
  unfold fX4_bestNext
  refine j_iconst dX4_bestNext_0 (inr_d rfl) ?_
  refine j_istoreE (ls2 := [some (.inr (.inr 94)), some (.inr (.inr 89)), some (.inl a2), some (.inl a3), some (.inl 0), none, none, none]) dX4_bestNext_1 (by decide) rfl rfl ?_
  refine j_ldc (v := 2147483647) dX4_bestNext_3 cst_RX4_59 (inr_d rfl) ?_
  refine j_istoreE (ls2 := [some (.inr (.inr 94)), some (.inr (.inr 89)), some (.inl a2), some (.inl a3), some (.inl 0), some (.inl 2147483647), none, none]) dX4_bestNext_5 (by decide) rfl rfl ?_
  refine j_iconst dX4_bestNext_7 (inr_d rfl) ?_
  refine j_istoreE (ls2 := [some (.inr (.inr 94)), some (.inr (.inr 89)), some (.inl a2), some (.inl a3), some (.inl 0), some (.inl 2147483647), some (.inl 0), none]) dX4_bestNext_8 (by decide) rfl rfl ?_
  refine j_msk [true, true, true, true, true, true, true, false] (jLX4_bestNext_10 hq _ _ _ (fun y6 s5 => ?_) _ _ _ _ _)
  refine j_iload dX4_bestNext_60 rfl ?_
  exact j_iret hq dX4_bestNext_62
abbrev rmX4_weighEndings : Room := { frames := 4, cells := 0, slots := 0, locals := 95 }
theorem dX4_weighEndings_0 : decode cX4_weighEndings 0 = .ok (.aload_n 0, 1) := by decide +kernel
theorem dX4_weighEndings_1 : decode cX4_weighEndings 1 = .ok (.getfield 20, 3) := by decide +kernel
theorem dX4_weighEndings_4 : decode cX4_weighEndings 4 = .ok (.iconst 0, 1) := by decide +kernel
theorem dX4_weighEndings_5 : decode cX4_weighEndings 5 = .ok (.iconst 0, 1) := by decide +kernel
theorem dX4_weighEndings_6 : decode cX4_weighEndings 6 = .ok (.iastore, 1) := by decide +kernel
theorem dX4_weighEndings_7 : decode cX4_weighEndings 7 = .ok (.iconst 1, 1) := by decide +kernel
theorem dX4_weighEndings_8 : decode cX4_weighEndings 8 = .ok (.istore_n 3, 1) := by decide +kernel
theorem dX4_weighEndings_9 : decode cX4_weighEndings 9 = .ok (.iload_n 3, 1) := by decide +kernel
theorem dX4_weighEndings_10 : decode cX4_weighEndings 10 = .ok (.iload_n 2, 1) := by decide +kernel
theorem dX4_weighEndings_11 : decode cX4_weighEndings 11 = .ok (.if_icmp .gt 37, 3) := by decide +kernel
theorem dX4_weighEndings_14 : decode cX4_weighEndings 14 = .ok (.iload_n 3, 1) := by decide +kernel
theorem dX4_weighEndings_15 : decode cX4_weighEndings 15 = .ok (.iload_n 2, 1) := by decide +kernel
theorem dX4_weighEndings_16 : decode cX4_weighEndings 16 = .ok (.iconst (-1), 1) := by decide +kernel
theorem dX4_weighEndings_17 : decode cX4_weighEndings 17 = .ok (.ixor, 1) := by decide +kernel
theorem dX4_weighEndings_18 : decode cX4_weighEndings 18 = .ok (.iand, 1) := by decide +kernel
theorem dX4_weighEndings_19 : decode cX4_weighEndings 19 = .ok (.ifCond .ne 23, 3) := by decide +kernel
theorem dX4_weighEndings_22 : decode cX4_weighEndings 22 = .ok (.aload_n 0, 1) := by decide +kernel
theorem dX4_weighEndings_23 : decode cX4_weighEndings 23 = .ok (.getfield 20, 3) := by decide +kernel
theorem dX4_weighEndings_26 : decode cX4_weighEndings 26 = .ok (.iload_n 3, 1) := by decide +kernel
theorem dX4_weighEndings_27 : decode cX4_weighEndings 27 = .ok (.aload_n 0, 1) := by decide +kernel
theorem dX4_weighEndings_28 : decode cX4_weighEndings 28 = .ok (.aload_n 1, 1) := by decide +kernel
theorem dX4_weighEndings_29 : decode cX4_weighEndings 29 = .ok (.iload_n 2, 1) := by decide +kernel
theorem dX4_weighEndings_30 : decode cX4_weighEndings 30 = .ok (.iload_n 3, 1) := by decide +kernel
theorem dX4_weighEndings_31 : decode cX4_weighEndings 31 = .ok (.aload_n 0, 1) := by decide +kernel
theorem dX4_weighEndings_32 : decode cX4_weighEndings 32 = .ok (.aload_n 1, 1) := by decide +kernel
theorem dX4_weighEndings_33 : decode cX4_weighEndings 33 = .ok (.iload_n 2, 1) := by decide +kernel
theorem dX4_weighEndings_34 : decode cX4_weighEndings 34 = .ok (.iload_n 3, 1) := by decide +kernel
theorem dX4_weighEndings_35 : decode cX4_weighEndings 35 = .ok (.invokevirtual 79, 3) := by decide +kernel
theorem dX4_weighEndings_38 : decode cX4_weighEndings 38 = .ok (.invokevirtual 83, 3) := by decide +kernel
theorem dX4_weighEndings_41 : decode cX4_weighEndings 41 = .ok (.iastore, 1) := by decide +kernel
theorem dX4_weighEndings_42 : decode cX4_weighEndings 42 = .ok (.iinc 3 1, 3) := by decide +kernel
theorem dX4_weighEndings_45 : decode cX4_weighEndings 45 = .ok (.goto (-36), 3) := by decide +kernel
theorem dX4_weighEndings_48 : decode cX4_weighEndings 48 = .ok (.return_, 1) := by decide +kernel
def LX4_weighEndings_9 (c2 : Int) (k48 : Mem → Option Res) : Nat → Int → Mem → Option Res
  | 0 => fun _ _ => none
  | n + 1 => fun x3 s => (if c2 < x3 then
 k48 s
 else
 (if ian x3 (ixo c2 (-1)) ≠ 0 then
 LX4_weighEndings_9 c2 k48 n (wr (x3 + 1)) s
 else
 bnd (fX4_bestNext c2 x3 s) (fun r2 s3 =>
 bnd (fX4_lateWith c2 x3 r2 s3) (fun r4 s5 =>
 ST s5 97 x3 256 r4 (fun s6 =>
 LX4_weighEndings_9 c2 k48 n (wr (x3 + 1)) s6)))))
def fX4_weighEndings (a2 : Int) (s0 : Mem) : Option Res :=
 ST s0 97 0 256 0 (fun s1 =>
 LX4_weighEndings_9 a2 (fun s7 =>
 some (0, s7)) FU 1 s1)
set_option maxRecDepth 100000 in
set_option maxHeartbeats 4000000 in
theorem jLX4_weighEndings_9 {K : KT} (hq : KV K none) (c2 : Int) (k48 : Mem → Option Res) (hk48 : ∀ (s : Mem), J K rmX4_weighEndings cX4_weighEndings RX4 4 48 [none, none, none, none] [] s (k48 s)) : ∀ (n : Nat) (x3 : Int) (s : Mem), J K rmX4_weighEndings cX4_weighEndings RX4 4 9 [some (.inr (.inr 94)), some (.inr (.inr 89)), some (.inl c2), some (.inl x3)] [] s (LX4_weighEndings_9 c2 k48 n x3 s) := by
  intro n
  induction n with
  | zero => intros; exact J_none
  | succ n ih =>
    intro x3 s
    show J K _ _ _ _ _ _ _ _ (LX4_weighEndings_9 c2 k48 (n + 1) x3 s)
    simp only [LX4_weighEndings_9]
    refine j_iload_n dX4_weighEndings_9 rfl rfl ?_
    refine j_iload_n dX4_weighEndings_10 rfl rfl ?_
    refine j_icmp_gt (tgt := 48) dX4_weighEndings_11 rfl ?_ ?_
    · exact j_msk [false, false, false, false] (hk48 _)
    · refine j_iload_n dX4_weighEndings_14 rfl rfl ?_
      refine j_iload_n dX4_weighEndings_15 rfl rfl ?_
      refine j_iconst dX4_weighEndings_16 (inr_d rfl) ?_
      refine j_ixor dX4_weighEndings_17 ?_
      refine j_iand dX4_weighEndings_18 ?_
      refine j_if_ne (tgt := 42) dX4_weighEndings_19 rfl ?_ ?_
      · refine j_iincE (ls2 := [some (.inr (.inr 94)), some (.inr (.inr 89)), some (.inl c2), some (.inl (wr (x3 + 1)))]) dX4_weighEndings_42 rfl (by decide) rfl rfl ?_
        refine j_goto (tgt := 9) dX4_weighEndings_45 rfl ?_
        exact j_msk [true, true, true, true] (ih _ _)
      · refine j_aload_n dX4_weighEndings_22 rfl rfl ?_
        refine j_getR fl_RX4_20 sh_94 rfl dX4_weighEndings_23 ?_
        refine j_iload_n dX4_weighEndings_26 rfl rfl ?_
        refine j_aload_n dX4_weighEndings_27 rfl rfl ?_
        refine j_aload_n dX4_weighEndings_28 rfl rfl ?_
        refine j_iload_n dX4_weighEndings_29 rfl rfl ?_
        refine j_iload_n dX4_weighEndings_30 rfl rfl ?_
        refine j_aload_n dX4_weighEndings_31 rfl rfl ?_
        refine j_aload_n dX4_weighEndings_32 rfl rfl ?_
        refine j_iload_n dX4_weighEndings_33 rfl rfl ?_
        refine j_iload_n dX4_weighEndings_34 rfl rfl ?_
        refine j_callVi (mX4_bestNext (kl K) (kD K) (kad K) (kcA K) c2 x3 s) cw_RX4_79 sh_94 rfl ⟨rfl, rfl, by decide, by decide⟩ rfl rfl (Nat.le_of_ble_eq_true rfl) dX4_weighEndings_35 (fun r2 s3 => ?_)
        refine j_callVi (mX4_lateWith (kl K) (kD K) (kad K) (kcA K) c2 x3 r2 s3) cw_RX4_83 sh_94 rfl ⟨rfl, rfl, by decide, by decide⟩ rfl rfl (Nat.le_of_ble_eq_true rfl) dX4_weighEndings_38 (fun r4 s5 => ?_)
        refine j_iast sh_97 dX4_weighEndings_41 (fun s6 => ?_)
        refine j_iincE (ls2 := [some (.inr (.inr 94)), some (.inr (.inr 89)), some (.inl c2), some (.inl (wr (x3 + 1)))]) dX4_weighEndings_42 rfl (by decide) rfl rfl ?_
        refine j_goto (tgt := 9) dX4_weighEndings_45 rfl ?_
        exact j_msk [true, true, true, true] (ih _ _)
set_option maxRecDepth 100000 in
set_option maxHeartbeats 4000000 in
theorem mX4_weighEndings (l : Launch) (D : va_G) (ad : Nat → Nat) (cA : Nat → ClassId) (a2 : Int) (s0 : Mem) : MCv l D ad cA yX4_weighEndings cX4_weighEndings 4 none rmX4_weighEndings [.inr (.inr 94), .inr (.inr 89), .inl a2] s0 (fX4_weighEndings a2 s0) := by
  refine MCv_ofE (own := RX4) (ls := [some (.inr (.inr 94)), some (.inr (.inr 89)), some (.inl a2), none]) 1 (by decide +kernel) rfl rfl (fun _ => Nat.le_of_ble_eq_true rfl) (fun K hq => ?_)
  unfold fX4_weighEndings
  refine j_aload_n dX4_weighEndings_0 rfl rfl ?_
  refine j_getR fl_RX4_20 sh_94 rfl dX4_weighEndings_1 ?_
  refine j_iconst dX4_weighEndings_4 (inr_d rfl) ?_
  refine j_iconst dX4_weighEndings_5 (inr_d rfl) ?_
  refine j_iast sh_97 dX4_weighEndings_6 (fun s1 => ?_)
  refine j_iconst dX4_weighEndings_7 (inr_d rfl) ?_
  refine j_istore_nE (ls2 := [some (.inr (.inr 94)), some (.inr (.inr 89)), some (.inl a2), some (.inl 1)]) dX4_weighEndings_8 rfl (by decide) rfl rfl ?_
  refine j_msk [true, true, true, true] (jLX4_weighEndings_9 hq _ _ (fun s7 => ?_) _ _ _)
  exact j_vret hq dX4_weighEndings_48
abbrev rmJ6_bitCount_0f7a4 : Room := { frames := 0, cells := 0, slots := 0, locals := 0 }
theorem dJ6_bitCount_0f7a4_0 : decode cJ6_bitCount_0f7a4 0 = .ok (.iload_n 0, 1) := by decide +kernel
theorem dJ6_bitCount_0f7a4_1 : decode cJ6_bitCount_0f7a4 1 = .ok (.iload_n 0, 1) := by decide +kernel
theorem dJ6_bitCount_0f7a4_2 : decode cJ6_bitCount_0f7a4 2 = .ok (.iconst 1, 1) := by decide +kernel
theorem dJ6_bitCount_0f7a4_3 : decode cJ6_bitCount_0f7a4 3 = .ok (.iushr, 1) := by decide +kernel
theorem dJ6_bitCount_0f7a4_4 : decode cJ6_bitCount_0f7a4 4 = .ok (.ldc_w 265, 3) := by decide +kernel
theorem dJ6_bitCount_0f7a4_7 : decode cJ6_bitCount_0f7a4 7 = .ok (.iand, 1) := by decide +kernel
theorem dJ6_bitCount_0f7a4_8 : decode cJ6_bitCount_0f7a4 8 = .ok (.isub, 1) := by decide +kernel
theorem dJ6_bitCount_0f7a4_9 : decode cJ6_bitCount_0f7a4 9 = .ok (.istore_n 0, 1) := by decide +kernel
theorem dJ6_bitCount_0f7a4_10 : decode cJ6_bitCount_0f7a4 10 = .ok (.iload_n 0, 1) := by decide +kernel
theorem dJ6_bitCount_0f7a4_11 : decode cJ6_bitCount_0f7a4 11 = .ok (.ldc_w 266, 3) := by decide +kernel
theorem dJ6_bitCount_0f7a4_14 : decode cJ6_bitCount_0f7a4 14 = .ok (.iand, 1) := by decide +kernel
theorem dJ6_bitCount_0f7a4_15 : decode cJ6_bitCount_0f7a4 15 = .ok (.iload_n 0, 1) := by decide +kernel
theorem dJ6_bitCount_0f7a4_16 : decode cJ6_bitCount_0f7a4 16 = .ok (.iconst 2, 1) := by decide +kernel
theorem dJ6_bitCount_0f7a4_17 : decode cJ6_bitCount_0f7a4 17 = .ok (.iushr, 1) := by decide +kernel
theorem dJ6_bitCount_0f7a4_18 : decode cJ6_bitCount_0f7a4 18 = .ok (.ldc_w 266, 3) := by decide +kernel
theorem dJ6_bitCount_0f7a4_21 : decode cJ6_bitCount_0f7a4 21 = .ok (.iand, 1) := by decide +kernel
theorem dJ6_bitCount_0f7a4_22 : decode cJ6_bitCount_0f7a4 22 = .ok (.iadd, 1) := by decide +kernel
theorem dJ6_bitCount_0f7a4_23 : decode cJ6_bitCount_0f7a4 23 = .ok (.istore_n 0, 1) := by decide +kernel
theorem dJ6_bitCount_0f7a4_24 : decode cJ6_bitCount_0f7a4 24 = .ok (.iload_n 0, 1) := by decide +kernel
theorem dJ6_bitCount_0f7a4_25 : decode cJ6_bitCount_0f7a4 25 = .ok (.iload_n 0, 1) := by decide +kernel
theorem dJ6_bitCount_0f7a4_26 : decode cJ6_bitCount_0f7a4 26 = .ok (.iconst 4, 1) := by decide +kernel
theorem dJ6_bitCount_0f7a4_27 : decode cJ6_bitCount_0f7a4 27 = .ok (.iushr, 1) := by decide +kernel
theorem dJ6_bitCount_0f7a4_28 : decode cJ6_bitCount_0f7a4 28 = .ok (.iadd, 1) := by decide +kernel
theorem dJ6_bitCount_0f7a4_29 : decode cJ6_bitCount_0f7a4 29 = .ok (.ldc_w 267, 3) := by decide +kernel
theorem dJ6_bitCount_0f7a4_32 : decode cJ6_bitCount_0f7a4 32 = .ok (.iand, 1) := by decide +kernel
theorem dJ6_bitCount_0f7a4_33 : decode cJ6_bitCount_0f7a4 33 = .ok (.istore_n 0, 1) := by decide +kernel
theorem dJ6_bitCount_0f7a4_34 : decode cJ6_bitCount_0f7a4 34 = .ok (.iload_n 0, 1) := by decide +kernel
theorem dJ6_bitCount_0f7a4_35 : decode cJ6_bitCount_0f7a4 35 = .ok (.iload_n 0, 1) := by decide +kernel
theorem dJ6_bitCount_0f7a4_36 : decode cJ6_bitCount_0f7a4 36 = .ok (.bipush 8, 2) := by decide +kernel
theorem dJ6_bitCount_0f7a4_38 : decode cJ6_bitCount_0f7a4 38 = .ok (.iushr, 1) := by decide +kernel
theorem dJ6_bitCount_0f7a4_39 : decode cJ6_bitCount_0f7a4 39 = .ok (.iadd, 1) := by decide +kernel
theorem dJ6_bitCount_0f7a4_40 : decode cJ6_bitCount_0f7a4 40 = .ok (.istore_n 0, 1) := by decide +kernel
theorem dJ6_bitCount_0f7a4_41 : decode cJ6_bitCount_0f7a4 41 = .ok (.iload_n 0, 1) := by decide +kernel
theorem dJ6_bitCount_0f7a4_42 : decode cJ6_bitCount_0f7a4 42 = .ok (.iload_n 0, 1) := by decide +kernel
theorem dJ6_bitCount_0f7a4_43 : decode cJ6_bitCount_0f7a4 43 = .ok (.bipush 16, 2) := by decide +kernel
theorem dJ6_bitCount_0f7a4_45 : decode cJ6_bitCount_0f7a4 45 = .ok (.iushr, 1) := by decide +kernel
theorem dJ6_bitCount_0f7a4_46 : decode cJ6_bitCount_0f7a4 46 = .ok (.iadd, 1) := by decide +kernel
theorem dJ6_bitCount_0f7a4_47 : decode cJ6_bitCount_0f7a4 47 = .ok (.istore_n 0, 1) := by decide +kernel
theorem dJ6_bitCount_0f7a4_48 : decode cJ6_bitCount_0f7a4 48 = .ok (.iload_n 0, 1) := by decide +kernel
theorem dJ6_bitCount_0f7a4_49 : decode cJ6_bitCount_0f7a4 49 = .ok (.bipush 63, 2) := by decide +kernel
theorem dJ6_bitCount_0f7a4_51 : decode cJ6_bitCount_0f7a4 51 = .ok (.iand, 1) := by decide +kernel
theorem dJ6_bitCount_0f7a4_52 : decode cJ6_bitCount_0f7a4 52 = .ok (.ireturn, 1) := by decide +kernel
def fJ6_bitCount_0f7a4 (a0 : Int) (s0 : Mem) : Option Res :=
 lt (wr (a0 - (ian (ius a0 1) 1431655765))) (fun v1 =>
 lt (wr ((ian v1 858993459) + (ian (ius v1 2) 858993459))) (fun v2 =>
 lt (ian (wr (v2 + (ius v2 4))) 252645135) (fun v3 =>
 lt (wr (v3 + (ius v3 8))) (fun v4 =>
 lt (wr (v4 + (ius v4 16))) (fun v5 =>
 some (ian v5 63, s0))))))
set_option maxRecDepth 100000 in
set_option maxHeartbeats 4000000 in
theorem mJ6_bitCount_0f7a4 (l : Launch) (D : va_G) (ad : Nat → Nat) (cA : Nat → ClassId) (a0 : Int) (s0 : Mem) : MCi l D ad cA yJ6_bitCount_0f7a4 cJ6_bitCount_0f7a4 1 (some .int) rmJ6_bitCount_0f7a4 [.inl a0] s0 (fJ6_bitCount_0f7a4 a0 s0) := by
  refine MCi_ofF (own := RJ6) (ls := [some (.inl a0)]) 0 (by decide +kernel) rfl rfl (fun _ => Nat.le_of_ble_eq_true rfl) (fun K hq => ?_)
  unfold fJ6_bitCount_0f7a4
  refine j_iload_n dJ6_bitCount_0f7a4_0 rfl rfl ?_
  refine j_iload_n dJ6_bitCount_0f7a4_1 rfl rfl ?_
  refine j_iconst dJ6_bitCount_0f7a4_2 (inr_d rfl) ?_
  refine j_iushr dJ6_bitCount_0f7a4_3 ?_
  refine j_ldcw (v := 1431655765) dJ6_bitCount_0f7a4_4 cst_RJ6_265 (inr_d rfl) ?_
  refine j_iand dJ6_bitCount_0f7a4_7 ?_
  refine j_isub dJ6_bitCount_0f7a4_8 ?_
  refine j_ltv (fun v1 => ?_)
  refine j_istore_nE (ls2 := [some (.inl v1)]) dJ6_bitCount_0f7a4_9 rfl (by decide) rfl rfl ?_
  refine j_iload_n dJ6_bitCount_0f7a4_10 rfl rfl ?_
  refine j_ldcw (v := 858993459) dJ6_bitCount_0f7a4_11 cst_RJ6_266 (inr_d rfl) ?_
  refine j_iand dJ6_bitCount_0f7a4_14 ?_
  refine j_iload_n dJ6_bitCount_0f7a4_15 rfl rfl ?_
  refine j_iconst dJ6_bitCount_0f7a4_16 (inr_d rfl) ?_
  refine j_iushr dJ6_bitCount_0f7a4_17 ?_
  refine j_ldcw (v := 858993459) dJ6_bitCount_0f7a4_18 cst_RJ6_266 (inr_d rfl) ?_
  refine j_iand dJ6_bitCount_0f7a4_21 ?_
  refine j_iadd dJ6_bitCount_0f7a4_22 ?_
  refine j_ltv (fun v2 => ?_)
  refine j_istore_nE (ls2 := [some (.inl v2)]) dJ6_bitCount_0f7a4_23 rfl (by decide) rfl rfl ?_
  refine j_iload_n dJ6_bitCount_0f7a4_24 rfl rfl ?_
  refine j_iload_n dJ6_bitCount_0f7a4_25 rfl rfl ?_
  refine j_iconst dJ6_bitCount_0f7a4_26 (inr_d rfl) ?_
  refine j_iushr dJ6_bitCount_0f7a4_27 ?_
  refine j_iadd dJ6_bitCount_0f7a4_28 ?_
  refine j_ldcw (v := 252645135) dJ6_bitCount_0f7a4_29 cst_RJ6_267 (inr_d rfl) ?_
  refine j_iand dJ6_bitCount_0f7a4_32 ?_
  refine j_ltv (fun v3 => ?_)
  refine j_istore_nE (ls2 := [some (.inl v3)]) dJ6_bitCount_0f7a4_33 rfl (by decide) rfl rfl ?_
  refine j_iload_n dJ6_bitCount_0f7a4_34 rfl rfl ?_
  refine j_iload_n dJ6_bitCount_0f7a4_35 rfl rfl ?_
  refine j_bipush (v := 8) dJ6_bitCount_0f7a4_36 (by decide +kernel) (inr_d rfl) ?_
  refine j_iushr dJ6_bitCount_0f7a4_38 ?_
  refine j_iadd dJ6_bitCount_0f7a4_39 ?_
  refine j_ltv (fun v4 => ?_)
  refine j_istore_nE (ls2 := [some (.inl v4)]) dJ6_bitCount_0f7a4_40 rfl (by decide) rfl rfl ?_
  refine j_iload_n dJ6_bitCount_0f7a4_41 rfl rfl ?_
  refine j_iload_n dJ6_bitCount_0f7a4_42 rfl rfl ?_
  refine j_bipush (v := 16) dJ6_bitCount_0f7a4_43 (by decide +kernel) (inr_d rfl) ?_
  refine j_iushr dJ6_bitCount_0f7a4_45 ?_
  refine j_iadd dJ6_bitCount_0f7a4_46 ?_
  refine j_ltv (fun v5 => ?_)
  refine j_istore_nE (ls2 := [some (.inl v5)]) dJ6_bitCount_0f7a4_47 rfl (by decide) rfl rfl ?_
  refine j_iload_n dJ6_bitCount_0f7a4_48 rfl rfl ?_
  refine j_bipush (v := 63) dJ6_bitCount_0f7a4_49 (by decide +kernel) (inr_d rfl) ?_
  refine j_iand dJ6_bitCount_0f7a4_51 ?_
  exact j_iret hq dJ6_bitCount_0f7a4_52
