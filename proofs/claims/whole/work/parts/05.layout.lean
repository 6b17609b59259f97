def FU : Nat := 1000000
theorem inr_d {x : Int} (h : (decide (-2147483648 ≤ x) && decide (x < 2147483648)) = true) : InR x := by
  rw [Bool.and_eq_true, decide_eq_true_eq, decide_eq_true_eq] at h; exact h
section EXPL
variable {K : KT} {rm : Room} {cc : ByteArray} {own : String} {nL pc : Nat} {ls ls2 : List (Option V)} {st : List V} {sg : Mem} {x : Option Res}
theorem j_ltv {e : Int} {k : Int → Option Res} (h : ∀ v, J K rm cc own nL pc ls (.inl v :: st) sg (k v)) : J K rm cc own nL pc ls (.inl e :: st) sg (lt e k) := h e
theorem j_istore_nE {kk : Fin 4} {i : Nat} {a : Int} (hd : decode cc pc = .ok (.istore_n kk, 1)) (hi : (kk : Nat) = i) (hn : i < nL) (ho : okst ls i = true) (hl : ls.set i (some (.inl a)) = ls2) (k : J K rm cc own nL (pc + 1) ls2 st sg x) : J K rm cc own nL pc ls (.inl a :: st) sg x := by subst hl; exact j_istore_n hd hi hn ho k
theorem j_istoreE {i : Nat} {a : Int} (hd : decode cc pc = .ok (.istore i, 2)) (hn : i < nL) (ho : okst ls i = true) (hl : ls.set i (some (.inl a)) = ls2) (k : J K rm cc own nL (pc + 2) ls2 st sg x) : J K rm cc own nL pc ls (.inl a :: st) sg x := by subst hl; exact j_istore hd hn ho k
theorem j_astore_nE {kk : Fin 4} {i : Nat} {a : Nat} (hd : decode cc pc = .ok (.astore_n kk, 1)) (hi : (kk : Nat) = i) (hn : i < nL) (ho : okst ls i = true) (hl : ls.set i (some (.inr (.inr a))) = ls2) (k : J K rm cc own nL (pc + 1) ls2 st sg x) : J K rm cc own nL pc ls (.inr (.inr a) :: st) sg x := by subst hl; exact j_astore_n hd hi hn ho k
theorem j_iincE {i : Nat} {n a : Int} (hd : decode cc pc = .ok (.iinc i n, 3)) (hv : ls[i]? = some (some (.inl a))) (hn : i < nL) (ho : okst ls i = true) (hl : ls.set i (some (.inl (wr (a + n)))) = ls2) (k : J K rm cc own nL (pc + 3) ls2 st sg x) : J K rm cc own nL pc ls st sg x := by subst hl; exact j_iinc hd hv hn ho k
theorem MCi_ofE {l : Launch} {D : va_G} {ad : Nat → Nat} {cA : Nat → ClassId} {y : MethodName} {ret : Option FieldType} {av : List V} (k : Nat) (hy : plainName y.cls = true) (ho : y.cls = own) (hls : ls = ent av ++ List.replicate k none) (hn : ∀ ad, (lg_sl (av.map (vv ad))).length ≤ nL)
    (h : ∀ K, KI K ret → J K rm cc own nL 0 ls [] sg x) : MCi l D ad cA y cc nL ret rm av sg x := by subst ho; exact MCi_of k hy hls hn h
theorem MCv_ofE {l : Launch} {D : va_G} {ad : Nat → Nat} {cA : Nat → ClassId} {y : MethodName} {ret : Option FieldType} {av : List V} (k : Nat) (hy : plainName y.cls = true) (ho : y.cls = own) (hls : ls = ent av ++ List.replicate k none) (hn : ∀ ad, (lg_sl (av.map (vv ad))).length ≤ nL)
    (h : ∀ K, KV K ret → J K rm cc own nL 0 ls [] sg x) : MCv l D ad cA y cc nL ret rm av sg x := by subst ho; exact MCv_of k hy hls hn h
end EXPL
theorem sh_0 : SH 0 = some (.inr (10, [some 1, some 7, some 8, some 11, some 20, some 39, some 58, some 77, some 79, some 83, some 89, some 94, none, none])) := rfl
theorem sh_1 : SH 1 = some (.inr (9, [some 2, some 3, some 4, some 5, some 6])) := rfl
theorem sh_2 : SH 2 = some (.inl (0, 81)) := rfl
theorem sh_3 : SH 3 = some (.inl (0, 2)) := rfl
theorem sh_4 : SH 4 = some (.inl (0, 2)) := rfl
theorem sh_5 : SH 5 = some (.inl (0, 2)) := rfl
theorem sh_6 : SH 6 = some (.inl (0, 3)) := rfl
theorem sh_7 : SH 7 = some (.inl (0, 4)) := rfl
theorem sh_8 : SH 8 = some (.inr (8, [some 9, none, some 10, none])) := rfl
theorem sh_9 : SH 9 = some (.inl (1, 400)) := rfl
theorem sh_10 : SH 10 = some (.inl (0, 5)) := rfl
theorem sh_11 : SH 11 = some (.inr (6, [none, none, some 12, some 13, some 14, some 15, some 16, some 17, some 18, some 19])) := rfl
theorem sh_12 : SH 12 = some (.inl (0, 17)) := rfl
theorem sh_13 : SH 13 = some (.inl (0, 48)) := rfl
theorem sh_14 : SH 14 = some (.inl (0, 16)) := rfl
theorem sh_15 : SH 15 = some (.inl (0, 48)) := rfl
theorem sh_16 : SH 16 = some (.inl (0, 16)) := rfl
theorem sh_17 : SH 17 = some (.inl (0, 64)) := rfl
theorem sh_18 : SH 18 = some (.inl (0, 64)) := rfl
theorem sh_19 : SH 19 = some (.inl (0, 64)) := rfl
theorem sh_20 : SH 20 = some (.inr (2, [some 21, some 30, some 31, some 32, some 33, some 34, some 38])) := rfl
theorem sh_21 : SH 21 = some (.inr (6, [none, none, some 22, some 23, some 24, some 25, some 26, some 27, some 28, some 29])) := rfl
theorem sh_22 : SH 22 = some (.inl (0, 17)) := rfl
theorem sh_23 : SH 23 = some (.inl (0, 48)) := rfl
theorem sh_24 : SH 24 = some (.inl (0, 16)) := rfl
theorem sh_25 : SH 25 = some (.inl (0, 48)) := rfl
theorem sh_26 : SH 26 = some (.inl (0, 16)) := rfl
theorem sh_27 : SH 27 = some (.inl (0, 64)) := rfl
theorem sh_28 : SH 28 = some (.inl (0, 64)) := rfl
theorem sh_29 : SH 29 = some (.inl (0, 64)) := rfl
theorem sh_30 : SH 30 = some (.inl (0, 48)) := rfl
theorem sh_31 : SH 31 = some (.inl (0, 48)) := rfl
theorem sh_32 : SH 32 = some (.inl (0, 16)) := rfl
theorem sh_33 : SH 33 = some (.inl (0, 16)) := rfl
theorem sh_34 : SH 34 = some (.inr (5, [some 35, some 36, some 37])) := rfl
theorem sh_35 : SH 35 = some (.inl (0, 8)) := rfl
theorem sh_36 : SH 36 = some (.inl (0, 8)) := rfl
theorem sh_37 : SH 37 = some (.inl (2, 8)) := rfl
theorem sh_38 : SH 38 = some (.inl (0, 15)) := rfl
theorem sh_39 : SH 39 = some (.inr (2, [some 40, some 49, some 50, some 51, some 52, some 53, some 57])) := rfl
theorem sh_40 : SH 40 = some (.inr (6, [none, none, some 41, some 42, some 43, some 44, some 45, some 46, some 47, some 48])) := rfl
theorem sh_41 : SH 41 = some (.inl (0, 17)) := rfl
theorem sh_42 : SH 42 = some (.inl (0, 48)) := rfl
theorem sh_43 : SH 43 = some (.inl (0, 16)) := rfl
theorem sh_44 : SH 44 = some (.inl (0, 48)) := rfl
theorem sh_45 : SH 45 = some (.inl (0, 16)) := rfl
theorem sh_46 : SH 46 = some (.inl (0, 64)) := rfl
theorem sh_47 : SH 47 = some (.inl (0, 64)) := rfl
theorem sh_48 : SH 48 = some (.inl (0, 64)) := rfl
theorem sh_49 : SH 49 = some (.inl (0, 48)) := rfl
theorem sh_50 : SH 50 = some (.inl (0, 48)) := rfl
theorem sh_51 : SH 51 = some (.inl (0, 16)) := rfl
theorem sh_52 : SH 52 = some (.inl (0, 16)) := rfl
theorem sh_53 : SH 53 = some (.inr (5, [some 54, some 55, some 56])) := rfl
theorem sh_54 : SH 54 = some (.inl (0, 8)) := rfl
theorem sh_55 : SH 55 = some (.inl (0, 8)) := rfl
theorem sh_56 : SH 56 = some (.inl (2, 8)) := rfl
theorem sh_57 : SH 57 = some (.inl (0, 15)) := rfl
theorem sh_58 : SH 58 = some (.inr (2, [some 59, some 68, some 69, some 70, some 71, some 72, some 76])) := rfl
theorem sh_59 : SH 59 = some (.inr (6, [none, none, some 60, some 61, some 62, some 63, some 64, some 65, some 66, some 67])) := rfl
theorem sh_60 : SH 60 = some (.inl (0, 17)) := rfl
theorem sh_61 : SH 61 = some (.inl (0, 48)) := rfl
theorem sh_62 : SH 62 = some (.inl (0, 16)) := rfl
theorem sh_63 : SH 63 = some (.inl (0, 48)) := rfl
theorem sh_64 : SH 64 = some (.inl (0, 16)) := rfl
theorem sh_65 : SH 65 = some (.inl (0, 64)) := rfl
theorem sh_66 : SH 66 = some (.inl (0, 64)) := rfl
theorem sh_67 : SH 67 = some (.inl (0, 64)) := rfl
theorem sh_68 : SH 68 = some (.inl (0, 48)) := rfl
theorem sh_69 : SH 69 = some (.inl (0, 48)) := rfl
theorem sh_70 : SH 70 = some (.inl (0, 16)) := rfl
theorem sh_71 : SH 71 = some (.inl (0, 16)) := rfl
theorem sh_72 : SH 72 = some (.inr (5, [some 73, some 74, some 75])) := rfl
theorem sh_73 : SH 73 = some (.inl (0, 8)) := rfl
theorem sh_74 : SH 74 = some (.inl (0, 8)) := rfl
theorem sh_75 : SH 75 = some (.inl (2, 8)) := rfl
theorem sh_76 : SH 76 = some (.inl (0, 15)) := rfl
theorem sh_77 : SH 77 = some (.inr (0, [some 78, none, none, none])) := rfl
theorem sh_78 : SH 78 = some (.inl (0, 16)) := rfl
theorem sh_79 : SH 79 = some (.inr (1, [some 80, some 81, some 82, none])) := rfl
theorem sh_80 : SH 80 = some (.inl (0, 800)) := rfl
theorem sh_81 : SH 81 = some (.inl (0, 50)) := rfl
theorem sh_82 : SH 82 = some (.inl (0, 16)) := rfl
theorem sh_83 : SH 83 = some (.inr (7, [some 84, some 85, some 86, none, some 87, some 88, none])) := rfl
theorem sh_84 : SH 84 = some (.inl (0, 20)) := rfl
theorem sh_85 : SH 85 = some (.inl (0, 20)) := rfl
theorem sh_86 : SH 86 = some (.inl (0, 20)) := rfl
theorem sh_87 : SH 87 = some (.inl (0, 20)) := rfl
theorem sh_88 : SH 88 = some (.inl (0, 20)) := rfl
theorem sh_89 : SH 89 = some (.inr (3, [some 90, some 91, some 92, some 93, none])) := rfl
theorem sh_90 : SH 90 = some (.inl (0, 8)) := rfl
theorem sh_91 : SH 91 = some (.inl (0, 8)) := rfl
theorem sh_92 : SH 92 = some (.inl (0, 8)) := rfl
theorem sh_93 : SH 93 = some (.inl (0, 8)) := rfl
theorem sh_94 : SH 94 = some (.inr (4, [some 95, some 96, some 97, some 98, some 99, none, none])) := rfl
theorem sh_95 : SH 95 = some (.inl (0, 256)) := rfl
theorem sh_96 : SH 96 = some (.inl (0, 256)) := rfl
theorem sh_97 : SH 97 = some (.inl (0, 256)) := rfl
theorem sh_98 : SH 98 = some (.inl (0, 16)) := rfl
theorem sh_99 : SH 99 = some (.inl (0, 2)) := rfl
theorem sh_100 : SH 100 = some (.inr (11, [some 101, some 102, some 103, some 104, some 105, none, none, none, none, some 106, some 107, some 108, some 109, some 110, some 111, some 112, some 113, some 114, some 115, none, none, some 116, some 117, some 118, some 119, some 120, some 121, some 122, some 123, some 124, some 125, none, none, none, some 126, none, none, some 127, none, some 128, some 129, some 130, none, some 131, some 132, some 133, some 134, some 135, none])) := rfl
theorem sh_101 : SH 101 = some (.inl (0, 81)) := rfl
theorem sh_102 : SH 102 = some (.inl (0, 2)) := rfl
theorem sh_103 : SH 103 = some (.inl (0, 2)) := rfl
theorem sh_104 : SH 104 = some (.inl (0, 2)) := rfl
theorem sh_105 : SH 105 = some (.inl (0, 3)) := rfl
theorem sh_106 : SH 106 = some (.inl (0, 4)) := rfl
theorem sh_107 : SH 107 = some (.inl (0, 4)) := rfl
theorem sh_108 : SH 108 = some (.inl (0, 64)) := rfl
theorem sh_109 : SH 109 = some (.inl (0, 192)) := rfl
theorem sh_110 : SH 110 = some (.inl (0, 64)) := rfl
theorem sh_111 : SH 111 = some (.inl (0, 192)) := rfl
theorem sh_112 : SH 112 = some (.inl (0, 64)) := rfl
theorem sh_113 : SH 113 = some (.inl (0, 256)) := rfl
theorem sh_114 : SH 114 = some (.inl (0, 256)) := rfl
theorem sh_115 : SH 115 = some (.inl (0, 256)) := rfl
theorem sh_116 : SH 116 = some (.inl (0, 400)) := rfl
theorem sh_117 : SH 117 = some (.inl (0, 144)) := rfl
theorem sh_118 : SH 118 = some (.inl (0, 144)) := rfl
theorem sh_119 : SH 119 = some (.inl (0, 48)) := rfl
theorem sh_120 : SH 120 = some (.inl (0, 48)) := rfl
theorem sh_121 : SH 121 = some (.inl (0, 24)) := rfl
theorem sh_122 : SH 122 = some (.inl (0, 24)) := rfl
theorem sh_123 : SH 123 = some (.inl (0, 24)) := rfl
theorem sh_124 : SH 124 = some (.inl (0, 48)) := rfl
theorem sh_125 : SH 125 = some (.inl (0, 2)) := rfl
theorem sh_126 : SH 126 = some (.inl (0, 5)) := rfl
theorem sh_127 : SH 127 = some (.inl (0, 816)) := rfl
theorem sh_128 : SH 128 = some (.inl (0, 20)) := rfl
theorem sh_129 : SH 129 = some (.inl (0, 20)) := rfl
theorem sh_130 : SH 130 = some (.inl (0, 20)) := rfl
theorem sh_131 : SH 131 = some (.inl (0, 8)) := rfl
theorem sh_132 : SH 132 = some (.inl (0, 8)) := rfl
theorem sh_133 : SH 133 = some (.inl (0, 8)) := rfl
theorem sh_134 : SH 134 = some (.inl (0, 8)) := rfl
theorem sh_135 : SH 135 = some (.inl (0, 256)) := rfl
def isSc (t : Nat) : Prop := t = 11 ∨ t = 21 ∨ t = 40 ∨ t = 59
theorem isSc_11 : isSc 11 := Or.inl rfl
theorem isSc_21 : isSc 21 := Or.inr (Or.inl rfl)
theorem isSc_40 : isSc 40 := Or.inr (Or.inr (Or.inl rfl))
theorem isSc_59 : isSc 59 := Or.inr (Or.inr (Or.inr (rfl)))
def isJo (t : Nat) : Prop := t = 20 ∨ t = 39 ∨ t = 58
theorem isJo_20 : isJo 20 := Or.inl rfl
theorem isJo_39 : isJo 39 := Or.inr (Or.inl rfl)
theorem isJo_58 : isJo 58 := Or.inr (Or.inr (rfl))
def isRe (t : Nat) : Prop := t = 34 ∨ t = 53 ∨ t = 72
theorem isRe_34 : isRe 34 := Or.inl rfl
theorem isRe_53 : isRe 53 := Or.inr (Or.inl rfl)
theorem isRe_72 : isRe 72 := Or.inr (Or.inr (rfl))
theorem sc_o {t : Nat} (h : isSc t) : SH t = some (.inr (6, [none, none, some (t + 1), some (t + 2), some (t + 3), some (t + 4), some (t + 5), some (t + 6), some (t + 7), some (t + 8)])) := by rcases h with rfl | rfl | rfl | rfl <;> rfl
theorem sc_2 {t : Nat} (h : isSc t) : SH (t + 1) = some (.inl (0, 17)) := by rcases h with rfl | rfl | rfl | rfl <;> rfl
theorem sc_3 {t : Nat} (h : isSc t) : SH (t + 2) = some (.inl (0, 48)) := by rcases h with rfl | rfl | rfl | rfl <;> rfl
theorem sc_4 {t : Nat} (h : isSc t) : SH (t + 3) = some (.inl (0, 16)) := by rcases h with rfl | rfl | rfl | rfl <;> rfl
theorem sc_5 {t : Nat} (h : isSc t) : SH (t + 4) = some (.inl (0, 48)) := by rcases h with rfl | rfl | rfl | rfl <;> rfl
theorem sc_6 {t : Nat} (h : isSc t) : SH (t + 5) = some (.inl (0, 16)) := by rcases h with rfl | rfl | rfl | rfl <;> rfl
theorem sc_7 {t : Nat} (h : isSc t) : SH (t + 6) = some (.inl (0, 64)) := by rcases h with rfl | rfl | rfl | rfl <;> rfl
theorem sc_8 {t : Nat} (h : isSc t) : SH (t + 7) = some (.inl (0, 64)) := by rcases h with rfl | rfl | rfl | rfl <;> rfl
theorem sc_9 {t : Nat} (h : isSc t) : SH (t + 8) = some (.inl (0, 64)) := by rcases h with rfl | rfl | rfl | rfl <;> rfl
theorem re_o {t : Nat} (h : isRe t) : SH t = some (.inr (5, [some (t + 1), some (t + 2), some (t + 3)])) := by rcases h with rfl | rfl | rfl <;> rfl
theorem re_0 {t : Nat} (h : isRe t) : SH (t + 1) = some (.inl (0, 8)) := by rcases h with rfl | rfl | rfl <;> rfl
theorem re_1 {t : Nat} (h : isRe t) : SH (t + 2) = some (.inl (0, 8)) := by rcases h with rfl | rfl | rfl <;> rfl
theorem re_2 {t : Nat} (h : isRe t) : SH (t + 3) = some (.inl (2, 8)) := by rcases h with rfl | rfl | rfl <;> rfl
theorem jo_o {t : Nat} (h : isJo t) : SH t = some (.inr (2, [some (t + 1), some (t + 10), some (t + 11), some (t + 12), some (t + 13), some (t + 14), some (t + 18)])) := by rcases h with rfl | rfl | rfl <;> rfl
theorem jo_0 {t : Nat} (h : isJo t) : isSc (t + 1) := by rcases h with rfl | rfl | rfl <;> simp [isSc]
theorem jo_1 {t : Nat} (h : isJo t) : SH (t + 10) = some (.inl (0, 48)) := by rcases h with rfl | rfl | rfl <;> rfl
theorem jo_2 {t : Nat} (h : isJo t) : SH (t + 11) = some (.inl (0, 48)) := by rcases h with rfl | rfl | rfl <;> rfl
theorem jo_3 {t : Nat} (h : isJo t) : SH (t + 12) = some (.inl (0, 16)) := by rcases h with rfl | rfl | rfl <;> rfl
theorem jo_4 {t : Nat} (h : isJo t) : SH (t + 13) = some (.inl (0, 16)) := by rcases h with rfl | rfl | rfl <;> rfl
theorem jo_5 {t : Nat} (h : isJo t) : isRe (t + 14) := by rcases h with rfl | rfl | rfl <;> simp [isRe]
theorem jo_6 {t : Nat} (h : isJo t) : SH (t + 18) = some (.inl (0, 15)) := by rcases h with rfl | rfl | rfl <;> rfl
