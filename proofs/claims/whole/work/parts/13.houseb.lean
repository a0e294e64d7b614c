section ZL
variable {l : Launch} {ad : ZA} {D : va_G} {ia : Nat → ClassId} {d : Nat}
set_option maxRecDepth 100000 in
set_option maxHeartbeats 4000000 in
theorem bX0_clear_0 {o : Nat} (ho : zcls o = 0) {C : ZC} {X : Option Value} {Y : ZS} {s : ZS} (hC : Zok ad D ia C d cX0_clear 1 RX0 none) (k : (∀ s1 : ZS, s1 = stI s o 0 0 → (∀ s2 : ZS, s2 = stI s1 o 4 0 → (∀ s3 : ZS, s3 = stI s2 o 9 0 → (∀ s4 : ZS, s4 = stI s3 o 10 0 → (∀ s5 : ZS, s5 = stI s4 o 11 0 → (∀ s6 : ZS, s6 = stI s5 o 12 0 → (∀ s7 : ZS, s7 = stI s6 o 13 0 → (X = none ∧ Y = s7))))))))) : Z l ad D ia C X Y 0 [(0, .ref (ad o 0))] [] s := by
  refine Z_aload_n hC dX0_clear_0 rfl rfl ?_
  refine Z_iconst (v := 0) hC dX0_clear_1 rfl ?_
  refine Z_putI (o := o) (k := 0) hC ho zs_0 pkX0_33 rfl rfl (hsX0_0 _ _ _) dX0_clear_2 (fun s1 es1 => ?_)
  have k := k s1 es1
  refine Z_aload_n hC dX0_clear_5 rfl rfl ?_
  refine Z_iconst (v := 0) hC dX0_clear_6 rfl ?_
  refine Z_putI (o := o) (k := 4) hC ho zs_0 pkX0_37 rfl rfl (hsX0_4 _ _ _) dX0_clear_7 (fun s2 es2 => ?_)
  have k := k s2 es2
  refine Z_aload_n hC dX0_clear_10 rfl rfl ?_
  refine Z_iconst (v := 0) hC dX0_clear_11 rfl ?_
  refine Z_putI (o := o) (k := 9) hC ho zs_0 pkX0_40 rfl rfl (hsX0_9 _ _ _) dX0_clear_12 (fun s3 es3 => ?_)
  have k := k s3 es3
  refine Z_aload_n hC dX0_clear_15 rfl rfl ?_
  refine Z_iconst (v := 0) hC dX0_clear_16 rfl ?_
  refine Z_putI (o := o) (k := 10) hC ho zs_0 pkX0_43 rfl rfl (hsX0_10 _ _ _) dX0_clear_17 (fun s4 es4 => ?_)
  have k := k s4 es4
  refine Z_aload_n hC dX0_clear_20 rfl rfl ?_
  refine Z_iconst (v := 0) hC dX0_clear_21 rfl ?_
  refine Z_putI (o := o) (k := 11) hC ho zs_0 pkX0_46 rfl rfl (hsX0_11 _ _ _) dX0_clear_22 (fun s5 es5 => ?_)
  have k := k s5 es5
  refine Z_aload_n hC dX0_clear_25 rfl rfl ?_
  refine Z_iconst (v := 0) hC dX0_clear_26 rfl ?_
  refine Z_putI (o := o) (k := 12) hC ho zs_0 pkX0_49 rfl rfl (hsX0_12 _ _ _) dX0_clear_27 (fun s6 es6 => ?_)
  have k := k s6 es6
  refine Z_aload_n hC dX0_clear_30 rfl rfl ?_
  refine Z_iconst (v := 0) hC dX0_clear_31 rfl ?_
  refine Z_putI (o := o) (k := 13) hC ho zs_0 pkX0_52 rfl rfl (hsX0_13 _ _ _) dX0_clear_32 (fun s7 es7 => ?_)
  have k := k s7 es7
  exact Z_vret hC dX0_clear_35 k.1 k.2
theorem eX0_clear {o : Nat} (ho : zcls o = 0) {X : Option Value} {Y : ZS} {s : ZS} (k : (∀ s1 : ZS, s1 = stI s o 0 0 → (∀ s2 : ZS, s2 = stI s1 o 4 0 → (∀ s3 : ZS, s3 = stI s2 o 9 0 → (∀ s4 : ZS, s4 = stI s3 o 10 0 → (∀ s5 : ZS, s5 = stI s4 o 11 0 → (∀ s6 : ZS, s6 = stI s5 o 12 0 → (∀ s7 : ZS, s7 = stI s6 o 13 0 → (X = none ∧ Y = s7))))))))) : Ev l ad D ia d mX0_clear [.ref (ad o 0)] s X Y :=
  Ev.start (by decide +kernel) (Nat.le_of_ble_eq_true rfl) (fun C hC => bX0_clear_0 ho hC k)
set_option maxRecDepth 100000 in
set_option maxHeartbeats 4000000 in
theorem bX0_copyFrom_0 {o : Nat} (ho : zcls o = 0) {o1 : Nat} (ho1 : zcls o1 = 0) {C : ZC} {X : Option Value} {Y : ZS} {s : ZS} (hC : Zok ad D ia C (d + 1) cX0_copyFrom 2 RX0 none) (k : (∀ s1 : ZS, s1 = stI s o 0 ((s o1).1 0) → (∀ s2 : ZS, s2 = stR s1 o 1 (va_cpy ((s1 o1).2.2 1) ((s1 o).2.2 1) (0 : Int32).toNatClampNeg (0 : Int32).toNatClampNeg (8 : Int32).toNatClampNeg) → (∀ s4 : ZS, s4 = stR s2 o 2 (va_cpy ((s2 o1).2.2 2) ((s2 o).2.2 2) (0 : Int32).toNatClampNeg (0 : Int32).toNatClampNeg (8 : Int32).toNatClampNeg) → (∀ s6 : ZS, s6 = stR s4 o 3 (va_cpy ((s4 o1).2.2 3) ((s4 o).2.2 3) (0 : Int32).toNatClampNeg (0 : Int32).toNatClampNeg (8 : Int32).toNatClampNeg) → (∀ s8 : ZS, s8 = stI s6 o 4 ((s6 o1).1 4) → (∀ s9 : ZS, s9 = stR s8 o 5 (va_cpy ((s8 o1).2.2 5) ((s8 o).2.2 5) (0 : Int32).toNatClampNeg (0 : Int32).toNatClampNeg (4 : Int32).toNatClampNeg) → (∀ s11 : ZS, s11 = stR s9 o 6 (va_cpy ((s9 o1).2.2 6) ((s9 o).2.2 6) (0 : Int32).toNatClampNeg (0 : Int32).toNatClampNeg (4 : Int32).toNatClampNeg) → (∀ s13 : ZS, s13 = stR s11 o 7 (va_cpy ((s11 o1).2.2 7) ((s11 o).2.2 7) (0 : Int32).toNatClampNeg (0 : Int32).toNatClampNeg (4 : Int32).toNatClampNeg) → (∀ s15 : ZS, s15 = stR s13 o 8 (va_cpy ((s13 o1).2.2 8) ((s13 o).2.2 8) (0 : Int32).toNatClampNeg (0 : Int32).toNatClampNeg (4 : Int32).toNatClampNeg) → (∀ s17 : ZS, s17 = stI s15 o 9 ((s15 o1).1 9) → (∀ s18 : ZS, s18 = stI s17 o 10 ((s17 o1).1 10) → (∀ s19 : ZS, s19 = stI s18 o 11 ((s18 o1).1 11) → (∀ s20 : ZS, s20 = stI s19 o 12 0 → (∀ s21 : ZS, s21 = stI s20 o 13 0 → (X = none ∧ Y = s21)))))))))))))))) : Z l ad D ia C X Y 0 [(0, .ref (ad o 0)), (1, .ref (ad o1 0))] [] s := by
  refine Z_aload_n hC dX0_copyFrom_0 rfl rfl ?_
  refine Z_aload_n hC dX0_copyFrom_1 rfl rfl ?_
  refine Z_get (o := o1) (c := 0) (k := 0) (v := .int ((s o1).1 0)) hC ho1 zs_0 lkX0_33 rfl dX0_copyFrom_2 ?_
  refine Z_putI (o := o) (k := 0) hC ho zs_0 pkX0_33 rfl rfl (hsX0_0 _ _ _) dX0_copyFrom_5 (fun s1 es1 => ?_)
  have k := k s1 es1
  refine Z_aload_n hC dX0_copyFrom_8 rfl rfl ?_
  refine Z_get (o := o1) (c := 0) (k := 1) (v := .ref (ad o1 2)) hC ho1 zs_0 lkX0_9 rfl dX0_copyFrom_9 ?_
  refine Z_iconst (v := 0) hC dX0_copyFrom_12 rfl ?_
  refine Z_aload_n hC dX0_copyFrom_13 rfl rfl ?_
  refine Z_get (o := o) (c := 0) (k := 1) (v := .ref (ad o 2)) hC ho zs_0 lkX0_9 rfl dX0_copyFrom_14 ?_
  refine Z_iconst (v := 0) hC dX0_copyFrom_17 rfl ?_
  refine Z_bipush (v := 8) hC dX0_copyFrom_18 rfl ?_
  refine Z_copy (o0 := o1) (k0 := 1) (n0 := 8) (o1 := o) (k1 := 1) (n1 := 8) hC mlX0_55 an_cp as_cp ai_cp (zis_of ho1 rfl) (zis_of ho rfl) (by decide) (by decide) (by decide) (by decide) (by decide) (Nat.le_of_ble_eq_true rfl) dX0_copyFrom_20 (fun s2 es2 => ?_)
  have k := k s2 es2
  refine Z_aload_n hC dX0_copyFrom_23 rfl rfl ?_
  refine Z_get (o := o1) (c := 0) (k := 2) (v := .ref (ad o1 3)) hC ho1 zs_0 lkX0_15 rfl dX0_copyFrom_24 ?_
  refine Z_iconst (v := 0) hC dX0_copyFrom_27 rfl ?_
  refine Z_aload_n hC dX0_copyFrom_28 rfl rfl ?_
  refine Z_get (o := o) (c := 0) (k := 2) (v := .ref (ad o 3)) hC ho zs_0 lkX0_15 rfl dX0_copyFrom_29 ?_
  refine Z_iconst (v := 0) hC dX0_copyFrom_32 rfl ?_
  refine Z_bipush (v := 8) hC dX0_copyFrom_33 rfl ?_
  refine Z_copy (o0 := o1) (k0 := 2) (n0 := 8) (o1 := o) (k1 := 2) (n1 := 8) hC mlX0_55 an_cp as_cp ai_cp (zis_of ho1 rfl) (zis_of ho rfl) (by decide) (by decide) (by decide) (by decide) (by decide) (Nat.le_of_ble_eq_true rfl) dX0_copyFrom_35 (fun s4 es4 => ?_)
  have k := k s4 es4
  refine Z_aload_n hC dX0_copyFrom_38 rfl rfl ?_
  refine Z_get (o := o1) (c := 0) (k := 3) (v := .ref (ad o1 4)) hC ho1 zs_0 lkX0_18 rfl dX0_copyFrom_39 ?_
  refine Z_iconst (v := 0) hC dX0_copyFrom_42 rfl ?_
  refine Z_aload_n hC dX0_copyFrom_43 rfl rfl ?_
  refine Z_get (o := o) (c := 0) (k := 3) (v := .ref (ad o 4)) hC ho zs_0 lkX0_18 rfl dX0_copyFrom_44 ?_
  refine Z_iconst (v := 0) hC dX0_copyFrom_47 rfl ?_
  refine Z_bipush (v := 8) hC dX0_copyFrom_48 rfl ?_
  refine Z_copy (o0 := o1) (k0 := 3) (n0 := 8) (o1 := o) (k1 := 3) (n1 := 8) hC mlX0_55 an_cp as_cp ai_cp (zis_of ho1 rfl) (zis_of ho rfl) (by decide) (by decide) (by decide) (by decide) (by decide) (Nat.le_of_ble_eq_true rfl) dX0_copyFrom_50 (fun s6 es6 => ?_)
  have k := k s6 es6
  refine Z_aload_n hC dX0_copyFrom_53 rfl rfl ?_
  refine Z_aload_n hC dX0_copyFrom_54 rfl rfl ?_
  refine Z_get (o := o1) (c := 0) (k := 4) (v := .int ((s6 o1).1 4)) hC ho1 zs_0 lkX0_37 rfl dX0_copyFrom_55 ?_
  refine Z_putI (o := o) (k := 4) hC ho zs_0 pkX0_37 rfl rfl (hsX0_4 _ _ _) dX0_copyFrom_58 (fun s8 es8 => ?_)
  have k := k s8 es8
  refine Z_aload_n hC dX0_copyFrom_61 rfl rfl ?_
  refine Z_get (o := o1) (c := 0) (k := 5) (v := .ref (ad o1 6)) hC ho1 zs_0 lkX0_21 rfl dX0_copyFrom_62 ?_
  refine Z_iconst (v := 0) hC dX0_copyFrom_65 rfl ?_
  refine Z_aload_n hC dX0_copyFrom_66 rfl rfl ?_
  refine Z_get (o := o) (c := 0) (k := 5) (v := .ref (ad o 6)) hC ho zs_0 lkX0_21 rfl dX0_copyFrom_67 ?_
  refine Z_iconst (v := 0) hC dX0_copyFrom_70 rfl ?_
  refine Z_iconst (v := 4) hC dX0_copyFrom_71 rfl ?_
  refine Z_copy (o0 := o1) (k0 := 5) (n0 := 4) (o1 := o) (k1 := 5) (n1 := 4) hC mlX0_55 an_cp as_cp ai_cp (zis_of ho1 rfl) (zis_of ho rfl) (by decide) (by decide) (by decide) (by decide) (by decide) (Nat.le_of_ble_eq_true rfl) dX0_copyFrom_72 (fun s9 es9 => ?_)
  have k := k s9 es9
  refine Z_aload_n hC dX0_copyFrom_75 rfl rfl ?_
  refine Z_get (o := o1) (c := 0) (k := 6) (v := .ref (ad o1 7)) hC ho1 zs_0 lkX0_24 rfl dX0_copyFrom_76 ?_
  refine Z_iconst (v := 0) hC dX0_copyFrom_79 rfl ?_
  refine Z_aload_n hC dX0_copyFrom_80 rfl rfl ?_
  refine Z_get (o := o) (c := 0) (k := 6) (v := .ref (ad o 7)) hC ho zs_0 lkX0_24 rfl dX0_copyFrom_81 ?_
  refine Z_iconst (v := 0) hC dX0_copyFrom_84 rfl ?_
  refine Z_iconst (v := 4) hC dX0_copyFrom_85 rfl ?_
  refine Z_copy (o0 := o1) (k0 := 6) (n0 := 4) (o1 := o) (k1 := 6) (n1 := 4) hC mlX0_55 an_cp as_cp ai_cp (zis_of ho1 rfl) (zis_of ho rfl) (by decide) (by decide) (by decide) (by decide) (by decide) (Nat.le_of_ble_eq_true rfl) dX0_copyFrom_86 (fun s11 es11 => ?_)
  have k := k s11 es11
  refine Z_aload_n hC dX0_copyFrom_89 rfl rfl ?_
  refine Z_get (o := o1) (c := 0) (k := 7) (v := .ref (ad o1 8)) hC ho1 zs_0 lkX0_27 rfl dX0_copyFrom_90 ?_
  refine Z_iconst (v := 0) hC dX0_copyFrom_93 rfl ?_
  refine Z_aload_n hC dX0_copyFrom_94 rfl rfl ?_
  refine Z_get (o := o) (c := 0) (k := 7) (v := .ref (ad o 8)) hC ho zs_0 lkX0_27 rfl dX0_copyFrom_95 ?_
  refine Z_iconst (v := 0) hC dX0_copyFrom_98 rfl ?_
  refine Z_iconst (v := 4) hC dX0_copyFrom_99 rfl ?_
  refine Z_copy (o0 := o1) (k0 := 7) (n0 := 4) (o1 := o) (k1 := 7) (n1 := 4) hC mlX0_55 an_cp as_cp ai_cp (zis_of ho1 rfl) (zis_of ho rfl) (by decide) (by decide) (by decide) (by decide) (by decide) (Nat.le_of_ble_eq_true rfl) dX0_copyFrom_100 (fun s13 es13 => ?_)
  have k := k s13 es13
  refine Z_aload_n hC dX0_copyFrom_103 rfl rfl ?_
  refine Z_get (o := o1) (c := 0) (k := 8) (v := .ref (ad o1 9)) hC ho1 zs_0 lkX0_30 rfl dX0_copyFrom_104 ?_
  refine Z_iconst (v := 0) hC dX0_copyFrom_107 rfl ?_
  refine Z_aload_n hC dX0_copyFrom_108 rfl rfl ?_
  refine Z_get (o := o) (c := 0) (k := 8) (v := .ref (ad o 9)) hC ho zs_0 lkX0_30 rfl dX0_copyFrom_109 ?_
  refine Z_iconst (v := 0) hC dX0_copyFrom_112 rfl ?_
  refine Z_iconst (v := 4) hC dX0_copyFrom_113 rfl ?_
  refine Z_copy (o0 := o1) (k0 := 8) (n0 := 4) (o1 := o) (k1 := 8) (n1 := 4) hC mlX0_55 an_cp as_cp ai_cp (zis_of ho1 rfl) (zis_of ho rfl) (by decide) (by decide) (by decide) (by decide) (by decide) (Nat.le_of_ble_eq_true rfl) dX0_copyFrom_114 (fun s15 es15 => ?_)
  have k := k s15 es15
  refine Z_aload_n hC dX0_copyFrom_117 rfl rfl ?_
  refine Z_aload_n hC dX0_copyFrom_118 rfl rfl ?_
  refine Z_get (o := o1) (c := 0) (k := 9) (v := .int ((s15 o1).1 9)) hC ho1 zs_0 lkX0_40 rfl dX0_copyFrom_119 ?_
  refine Z_putI (o := o) (k := 9) hC ho zs_0 pkX0_40 rfl rfl (hsX0_9 _ _ _) dX0_copyFrom_122 (fun s17 es17 => ?_)
  have k := k s17 es17
  refine Z_aload_n hC dX0_copyFrom_125 rfl rfl ?_
  refine Z_aload_n hC dX0_copyFrom_126 rfl rfl ?_
  refine Z_get (o := o1) (c := 0) (k := 10) (v := .int ((s17 o1).1 10)) hC ho1 zs_0 lkX0_43 rfl dX0_copyFrom_127 ?_
  refine Z_putI (o := o) (k := 10) hC ho zs_0 pkX0_43 rfl rfl (hsX0_10 _ _ _) dX0_copyFrom_130 (fun s18 es18 => ?_)
  have k := k s18 es18
  refine Z_aload_n hC dX0_copyFrom_133 rfl rfl ?_
  refine Z_aload_n hC dX0_copyFrom_134 rfl rfl ?_
  refine Z_get (o := o1) (c := 0) (k := 11) (v := .int ((s18 o1).1 11)) hC ho1 zs_0 lkX0_46 rfl dX0_copyFrom_135 ?_
  refine Z_putI (o := o) (k := 11) hC ho zs_0 pkX0_46 rfl rfl (hsX0_11 _ _ _) dX0_copyFrom_138 (fun s19 es19 => ?_)
  have k := k s19 es19
  refine Z_aload_n hC dX0_copyFrom_141 rfl rfl ?_
  refine Z_iconst (v := 0) hC dX0_copyFrom_142 rfl ?_
  refine Z_putI (o := o) (k := 12) hC ho zs_0 pkX0_49 rfl rfl (hsX0_12 _ _ _) dX0_copyFrom_143 (fun s20 es20 => ?_)
  have k := k s20 es20
  refine Z_aload_n hC dX0_copyFrom_146 rfl rfl ?_
  refine Z_iconst (v := 0) hC dX0_copyFrom_147 rfl ?_
  refine Z_putI (o := o) (k := 13) hC ho zs_0 pkX0_52 rfl rfl (hsX0_13 _ _ _) dX0_copyFrom_148 (fun s21 es21 => ?_)
  have k := k s21 es21
  exact Z_vret hC dX0_copyFrom_151 k.1 k.2
theorem eX0_copyFrom {o : Nat} (ho : zcls o = 0) {o1 : Nat} (ho1 : zcls o1 = 0) {X : Option Value} {Y : ZS} {s : ZS} (k : (∀ s1 : ZS, s1 = stI s o 0 ((s o1).1 0) → (∀ s2 : ZS, s2 = stR s1 o 1 (va_cpy ((s1 o1).2.2 1) ((s1 o).2.2 1) (0 : Int32).toNatClampNeg (0 : Int32).toNatClampNeg (8 : Int32).toNatClampNeg) → (∀ s4 : ZS, s4 = stR s2 o 2 (va_cpy ((s2 o1).2.2 2) ((s2 o).2.2 2) (0 : Int32).toNatClampNeg (0 : Int32).toNatClampNeg (8 : Int32).toNatClampNeg) → (∀ s6 : ZS, s6 = stR s4 o 3 (va_cpy ((s4 o1).2.2 3) ((s4 o).2.2 3) (0 : Int32).toNatClampNeg (0 : Int32).toNatClampNeg (8 : Int32).toNatClampNeg) → (∀ s8 : ZS, s8 = stI s6 o 4 ((s6 o1).1 4) → (∀ s9 : ZS, s9 = stR s8 o 5 (va_cpy ((s8 o1).2.2 5) ((s8 o).2.2 5) (0 : Int32).toNatClampNeg (0 : Int32).toNatClampNeg (4 : Int32).toNatClampNeg) → (∀ s11 : ZS, s11 = stR s9 o 6 (va_cpy ((s9 o1).2.2 6) ((s9 o).2.2 6) (0 : Int32).toNatClampNeg (0 : Int32).toNatClampNeg (4 : Int32).toNatClampNeg) → (∀ s13 : ZS, s13 = stR s11 o 7 (va_cpy ((s11 o1).2.2 7) ((s11 o).2.2 7) (0 : Int32).toNatClampNeg (0 : Int32).toNatClampNeg (4 : Int32).toNatClampNeg) → (∀ s15 : ZS, s15 = stR s13 o 8 (va_cpy ((s13 o1).2.2 8) ((s13 o).2.2 8) (0 : Int32).toNatClampNeg (0 : Int32).toNatClampNeg (4 : Int32).toNatClampNeg) → (∀ s17 : ZS, s17 = stI s15 o 9 ((s15 o1).1 9) → (∀ s18 : ZS, s18 = stI s17 o 10 ((s17 o1).1 10) → (∀ s19 : ZS, s19 = stI s18 o 11 ((s18 o1).1 11) → (∀ s20 : ZS, s20 = stI s19 o 12 0 → (∀ s21 : ZS, s21 = stI s20 o 13 0 → (X = none ∧ Y = s21)))))))))))))))) : Ev l ad D ia (d + 1) mX0_copyFrom [.ref (ad o 0), .ref (ad o1 0)] s X Y :=
  Ev.start (by decide +kernel) (Nat.le_of_ble_eq_true rfl) (fun C hC => bX0_copyFrom_0 ho ho1 hC k)
set_option maxRecDepth 100000 in
set_option maxHeartbeats 4000000 in
theorem bX0_addBook_0 {o : Nat} (ho : zcls o = 0) {x1 : Int32} {x2 : Int32} {x3 : Int32} {C : ZC} {X : Option Value} {Y : ZS} {s : ZS} (hC : Zok ad D ia C d cX0_addBook 4 RX0 none) (k : ((8 ≤ ((s o).1 0) → (X = none ∧ Y = s)) ∧ (¬ 8 ≤ ((s o).1 0) → (vp_in ((s o).1 0) 8 ∧ (∀ s3 : ZS, s3 = stA s o 1 ((s o).1 0).toNatClampNeg x1 → (vp_in ((s3 o).1 0) 8 ∧ (∀ s5 : ZS, s5 = stA s3 o 2 ((s3 o).1 0).toNatClampNeg x2 → (vp_in ((s5 o).1 0) 8 ∧ (∀ s7 : ZS, s7 = stA s5 o 3 ((s5 o).1 0).toNatClampNeg x3 → (∀ s8 : ZS, s8 = stI s7 o 0 (((s7 o).1 0) + 1) → (X = none ∧ Y = s8))))))))))) : Z l ad D ia C X Y 0 [(0, .ref (ad o 0)), (1, .int x1), (2, .int x2), (3, .int x3)] [] s := by
  refine Z_aload_n hC dX0_addBook_0 rfl rfl ?_
  refine Z_get (o := o) (c := 0) (k := 0) (v := .int ((s o).1 0)) hC ho zs_0 lkX0_33 rfl dX0_addBook_1 ?_
  refine Z_bipush (v := 8) hC dX0_addBook_4 rfl ?_
  refine Z_icmp_ge (tgt := 49) hC dX0_addBook_6 (by decide) (fun c1 => ?_) (fun c1 => ?_)
  · have k := k.1 c1
    exact Z_vret hC dX0_addBook_49 k.1 k.2
  · have k := k.2 c1
    refine Z_aload_n hC dX0_addBook_9 rfl rfl ?_
    refine Z_get (o := o) (c := 0) (k := 1) (v := .ref (ad o 2)) hC ho zs_0 lkX0_9 rfl dX0_addBook_10 ?_
    refine Z_aload_n hC dX0_addBook_13 rfl rfl ?_
    refine Z_get (o := o) (c := 0) (k := 0) (v := .int ((s o).1 0)) hC ho zs_0 lkX0_33 rfl dX0_addBook_14 ?_
    refine Z_iload_n hC dX0_addBook_17 rfl rfl ?_
    obtain ⟨h2, k⟩ := k
    refine Z_iast2 (o := o) (k := 1) hC (zis_of ho rfl) h2 dX0_addBook_18 (fun s3 es3 => ?_)
    have k := k s3 es3
    refine Z_aload_n hC dX0_addBook_19 rfl rfl ?_
    refine Z_get (o := o) (c := 0) (k := 2) (v := .ref (ad o 3)) hC ho zs_0 lkX0_15 rfl dX0_addBook_20 ?_
    refine Z_aload_n hC dX0_addBook_23 rfl rfl ?_
    refine Z_get (o := o) (c := 0) (k := 0) (v := .int ((s3 o).1 0)) hC ho zs_0 lkX0_33 rfl dX0_addBook_24 ?_
    refine Z_iload_n hC dX0_addBook_27 rfl rfl ?_
    obtain ⟨h4, k⟩ := k
    refine Z_iast2 (o := o) (k := 2) hC (zis_of ho rfl) h4 dX0_addBook_28 (fun s5 es5 => ?_)
    have k := k s5 es5
    refine Z_aload_n hC dX0_addBook_29 rfl rfl ?_
    refine Z_get (o := o) (c := 0) (k := 3) (v := .ref (ad o 4)) hC ho zs_0 lkX0_18 rfl dX0_addBook_30 ?_
    refine Z_aload_n hC dX0_addBook_33 rfl rfl ?_
    refine Z_get (o := o) (c := 0) (k := 0) (v := .int ((s5 o).1 0)) hC ho zs_0 lkX0_33 rfl dX0_addBook_34 ?_
    refine Z_iload_n hC dX0_addBook_37 rfl rfl ?_
    obtain ⟨h6, k⟩ := k
    refine Z_iast2 (o := o) (k := 3) hC (zis_of ho rfl) h6 dX0_addBook_38 (fun s7 es7 => ?_)
    have k := k s7 es7
    refine Z_aload_n hC dX0_addBook_39 rfl rfl ?_
    refine Z_dup hC dX0_addBook_40 rfl ?_
    refine Z_get (o := o) (c := 0) (k := 0) (v := .int ((s7 o).1 0)) hC ho zs_0 lkX0_33 rfl dX0_addBook_41 ?_
    refine Z_iconst (v := 1) hC dX0_addBook_44 rfl ?_
    refine Z_iadd hC dX0_addBook_45 ?_
    refine Z_putI (o := o) (k := 0) hC ho zs_0 pkX0_33 rfl rfl (hsX0_0 _ _ _) dX0_addBook_46 (fun s8 es8 => ?_)
    have k := k s8 es8
    exact Z_vret hC dX0_addBook_49 k.1 k.2
theorem eX0_addBook {o : Nat} (ho : zcls o = 0) {x1 : Int32} {x2 : Int32} {x3 : Int32} {X : Option Value} {Y : ZS} {s : ZS} (k : ((8 ≤ ((s o).1 0) → (X = none ∧ Y = s)) ∧ (¬ 8 ≤ ((s o).1 0) → (vp_in ((s o).1 0) 8 ∧ (∀ s3 : ZS, s3 = stA s o 1 ((s o).1 0).toNatClampNeg x1 → (vp_in ((s3 o).1 0) 8 ∧ (∀ s5 : ZS, s5 = stA s3 o 2 ((s3 o).1 0).toNatClampNeg x2 → (vp_in ((s5 o).1 0) 8 ∧ (∀ s7 : ZS, s7 = stA s5 o 3 ((s5 o).1 0).toNatClampNeg x3 → (∀ s8 : ZS, s8 = stI s7 o 0 (((s7 o).1 0) + 1) → (X = none ∧ Y = s8))))))))))) : Ev l ad D ia d mX0_addBook [.ref (ad o 0), .int x1, .int x2, .int x3] s X Y :=
  Ev.start (by decide +kernel) (Nat.le_of_ble_eq_true rfl) (fun C hC => bX0_addBook_0 ho hC k)
set_option maxRecDepth 100000 in
set_option maxHeartbeats 4000000 in
theorem bX0_addReader_0 {o : Nat} (ho : zcls o = 0) {x1 : Int32} {x2 : Int32} {x3 : Int32} {C : ZC} {X : Option Value} {Y : ZS} {s : ZS} (hC : Zok ad D ia C d cX0_addReader 4 RX0 none) (k : ((4 ≤ ((s o).1 4) → (X = none ∧ Y = s)) ∧ (¬ 4 ≤ ((s o).1 4) → (vp_in ((s o).1 4) 4 ∧ (∀ s3 : ZS, s3 = stA s o 5 ((s o).1 4).toNatClampNeg x1 → (vp_in ((s3 o).1 4) 4 ∧ (∀ s5 : ZS, s5 = stA s3 o 6 ((s3 o).1 4).toNatClampNeg x2 → (vp_in ((s5 o).1 4) 4 ∧ (∀ s7 : ZS, s7 = stA s5 o 7 ((s5 o).1 4).toNatClampNeg x3 → (vp_in ((s7 o).1 4) 4 ∧ (∀ s9 : ZS, s9 = stA s7 o 8 ((s7 o).1 4).toNatClampNeg 0 → (∀ s10 : ZS, s10 = stI s9 o 4 (((s9 o).1 4) + 1) → (X = none ∧ Y = s10))))))))))))) : Z l ad D ia C X Y 0 [(0, .ref (ad o 0)), (1, .int x1), (2, .int x2), (3, .int x3)] [] s := by
  refine Z_aload_n hC dX0_addReader_0 rfl rfl ?_
  refine Z_get (o := o) (c := 0) (k := 4) (v := .int ((s o).1 4)) hC ho zs_0 lkX0_37 rfl dX0_addReader_1 ?_
  refine Z_iconst (v := 4) hC dX0_addReader_4 rfl ?_
  refine Z_icmp_ge (tgt := 58) hC dX0_addReader_5 (by decide) (fun c1 => ?_) (fun c1 => ?_)
  · have k := k.1 c1
    exact Z_vret hC dX0_addReader_58 k.1 k.2
  · have k := k.2 c1
    refine Z_aload_n hC dX0_addReader_8 rfl rfl ?_
    refine Z_get (o := o) (c := 0) (k := 5) (v := .ref (ad o 6)) hC ho zs_0 lkX0_21 rfl dX0_addReader_9 ?_
    refine Z_aload_n hC dX0_addReader_12 rfl rfl ?_
    refine Z_get (o := o) (c := 0) (k := 4) (v := .int ((s o).1 4)) hC ho zs_0 lkX0_37 rfl dX0_addReader_13 ?_
    refine Z_iload_n hC dX0_addReader_16 rfl rfl ?_
    obtain ⟨h2, k⟩ := k
    refine Z_iast2 (o := o) (k := 5) hC (zis_of ho rfl) h2 dX0_addReader_17 (fun s3 es3 => ?_)
    have k := k s3 es3
    refine Z_aload_n hC dX0_addReader_18 rfl rfl ?_
    refine Z_get (o := o) (c := 0) (k := 6) (v := .ref (ad o 7)) hC ho zs_0 lkX0_24 rfl dX0_addReader_19 ?_
    refine Z_aload_n hC dX0_addReader_22 rfl rfl ?_
    refine Z_get (o := o) (c := 0) (k := 4) (v := .int ((s3 o).1 4)) hC ho zs_0 lkX0_37 rfl dX0_addReader_23 ?_
    refine Z_iload_n hC dX0_addReader_26 rfl rfl ?_
    obtain ⟨h4, k⟩ := k
    refine Z_iast2 (o := o) (k := 6) hC (zis_of ho rfl) h4 dX0_addReader_27 (fun s5 es5 => ?_)
    have k := k s5 es5
    refine Z_aload_n hC dX0_addReader_28 rfl rfl ?_
    refine Z_get (o := o) (c := 0) (k := 7) (v := .ref (ad o 8)) hC ho zs_0 lkX0_27 rfl dX0_addReader_29 ?_
    refine Z_aload_n hC dX0_addReader_32 rfl rfl ?_
    refine Z_get (o := o) (c := 0) (k := 4) (v := .int ((s5 o).1 4)) hC ho zs_0 lkX0_37 rfl dX0_addReader_33 ?_
    refine Z_iload_n hC dX0_addReader_36 rfl rfl ?_
    obtain ⟨h6, k⟩ := k
    refine Z_iast2 (o := o) (k := 7) hC (zis_of ho rfl) h6 dX0_addReader_37 (fun s7 es7 => ?_)
    have k := k s7 es7
    refine Z_aload_n hC dX0_addReader_38 rfl rfl ?_
    refine Z_get (o := o) (c := 0) (k := 8) (v := .ref (ad o 9)) hC ho zs_0 lkX0_30 rfl dX0_addReader_39 ?_
    refine Z_aload_n hC dX0_addReader_42 rfl rfl ?_
    refine Z_get (o := o) (c := 0) (k := 4) (v := .int ((s7 o).1 4)) hC ho zs_0 lkX0_37 rfl dX0_addReader_43 ?_
    refine Z_iconst (v := 0) hC dX0_addReader_46 rfl ?_
    obtain ⟨h8, k⟩ := k
    refine Z_iast2 (o := o) (k := 8) hC (zis_of ho rfl) h8 dX0_addReader_47 (fun s9 es9 => ?_)
    have k := k s9 es9
    refine Z_aload_n hC dX0_addReader_48 rfl rfl ?_
    refine Z_dup hC dX0_addReader_49 rfl ?_
    refine Z_get (o := o) (c := 0) (k := 4) (v := .int ((s9 o).1 4)) hC ho zs_0 lkX0_37 rfl dX0_addReader_50 ?_
    refine Z_iconst (v := 1) hC dX0_addReader_53 rfl ?_
    refine Z_iadd hC dX0_addReader_54 ?_
    refine Z_putI (o := o) (k := 4) hC ho zs_0 pkX0_37 rfl rfl (hsX0_4 _ _ _) dX0_addReader_55 (fun s10 es10 => ?_)
    have k := k s10 es10
    exact Z_vret hC dX0_addReader_58 k.1 k.2
theorem eX0_addReader {o : Nat} (ho : zcls o = 0) {x1 : Int32} {x2 : Int32} {x3 : Int32} {X : Option Value} {Y : ZS} {s : ZS} (k : ((4 ≤ ((s o).1 4) → (X = none ∧ Y = s)) ∧ (¬ 4 ≤ ((s o).1 4) → (vp_in ((s o).1 4) 4 ∧ (∀ s3 : ZS, s3 = stA s o 5 ((s o).1 4).toNatClampNeg x1 → (vp_in ((s3 o).1 4) 4 ∧ (∀ s5 : ZS, s5 = stA s3 o 6 ((s3 o).1 4).toNatClampNeg x2 → (vp_in ((s5 o).1 4) 4 ∧ (∀ s7 : ZS, s7 = stA s5 o 7 ((s5 o).1 4).toNatClampNeg x3 → (vp_in ((s7 o).1 4) 4 ∧ (∀ s9 : ZS, s9 = stA s7 o 8 ((s7 o).1 4).toNatClampNeg 0 → (∀ s10 : ZS, s10 = stI s9 o 4 (((s9 o).1 4) + 1) → (X = none ∧ Y = s10))))))))))))) : Ev l ad D ia d mX0_addReader [.ref (ad o 0), .int x1, .int x2, .int x3] s X Y :=
  Ev.start (by decide +kernel) (Nat.le_of_ble_eq_true rfl) (fun C hC => bX0_addReader_0 ho hC k)
set_option maxRecDepth 100000 in
set_option maxHeartbeats 4000000 in
theorem bX0_hasBook_0 {o : Nat} (ho : zcls o = 0) {x1 : Int32} {C : ZC} {X : Option Value} {Y : ZS} {s : ZS} (hC : Zok ad D ia C d cX0_hasBook 2 RX0 (some .boolean)) (k : ((x1 < (0 : Int32) → (X = some (.int 0) ∧ Y = s)) ∧ (¬ x1 < (0 : Int32) → ((((s o).1 0) ≤ x1 → (X = some (.int 0) ∧ Y = s)) ∧ (¬ ((s o).1 0) ≤ x1 → (X = some (.int 1) ∧ Y = s)))))) : Z l ad D ia C X Y 0 [(0, .ref (ad o 0)), (1, .int x1)] [] s := by
  refine Z_iconst (v := 0) hC dX0_hasBook_0 rfl ?_
  refine Z_iload_n hC dX0_hasBook_1 rfl rfl ?_
  refine Z_icmp_gt (tgt := 17) hC dX0_hasBook_2 (by decide) (fun c1 => ?_) (fun c1 => ?_)
  · have k := k.1 c1
    refine Z_iconst (v := 0) hC dX0_hasBook_17 rfl ?_
    exact Z_zret hC dX0_hasBook_18 rfl k.1 k.2
  · have k := k.2 c1
    refine Z_iload_n hC dX0_hasBook_5 rfl rfl ?_
    refine Z_aload_n hC dX0_hasBook_6 rfl rfl ?_
    refine Z_get (o := o) (c := 0) (k := 0) (v := .int ((s o).1 0)) hC ho zs_0 lkX0_33 rfl dX0_hasBook_7 ?_
    refine Z_icmp_ge (tgt := 17) hC dX0_hasBook_10 (by decide) (fun c2 => ?_) (fun c2 => ?_)
    · have k := k.1 c2
      refine Z_iconst (v := 0) hC dX0_hasBook_17 rfl ?_
      exact Z_zret hC dX0_hasBook_18 rfl k.1 k.2
    · have k := k.2 c2
      refine Z_iconst (v := 1) hC dX0_hasBook_13 rfl ?_
      refine Z_goto (tgt := 18) hC dX0_hasBook_14 (by decide) ?_
      exact Z_zret hC dX0_hasBook_18 rfl k.1 k.2
theorem eX0_hasBook {o : Nat} (ho : zcls o = 0) {x1 : Int32} {X : Option Value} {Y : ZS} {s : ZS} (k : ((x1 < (0 : Int32) → (X = some (.int 0) ∧ Y = s)) ∧ (¬ x1 < (0 : Int32) → ((((s o).1 0) ≤ x1 → (X = some (.int 0) ∧ Y = s)) ∧ (¬ ((s o).1 0) ≤ x1 → (X = some (.int 1) ∧ Y = s)))))) : Ev l ad D ia d mX0_hasBook [.ref (ad o 0), .int x1] s X Y :=
  Ev.start (by decide +kernel) (Nat.le_of_ble_eq_true rfl) (fun C hC => bX0_hasBook_0 ho hC k)
set_option maxRecDepth 100000 in
set_option maxHeartbeats 4000000 in
theorem bX0_hasReader_0 {o : Nat} (ho : zcls o = 0) {x1 : Int32} {C : ZC} {X : Option Value} {Y : ZS} {s : ZS} (hC : Zok ad D ia C d cX0_hasReader 2 RX0 (some .boolean)) (k : ((x1 < (0 : Int32) → (X = some (.int 0) ∧ Y = s)) ∧ (¬ x1 < (0 : Int32) → ((((s o).1 4) ≤ x1 → (X = some (.int 0) ∧ Y = s)) ∧ (¬ ((s o).1 4) ≤ x1 → (X = some (.int 1) ∧ Y = s)))))) : Z l ad D ia C X Y 0 [(0, .ref (ad o 0)), (1, .int x1)] [] s := by
  refine Z_iconst (v := 0) hC dX0_hasReader_0 rfl ?_
  refine Z_iload_n hC dX0_hasReader_1 rfl rfl ?_
  refine Z_icmp_gt (tgt := 17) hC dX0_hasReader_2 (by decide) (fun c1 => ?_) (fun c1 => ?_)
  · have k := k.1 c1
    refine Z_iconst (v := 0) hC dX0_hasReader_17 rfl ?_
    exact Z_zret hC dX0_hasReader_18 rfl k.1 k.2
  · have k := k.2 c1
    refine Z_iload_n hC dX0_hasReader_5 rfl rfl ?_
    refine Z_aload_n hC dX0_hasReader_6 rfl rfl ?_
    refine Z_get (o := o) (c := 0) (k := 4) (v := .int ((s o).1 4)) hC ho zs_0 lkX0_37 rfl dX0_hasReader_7 ?_
    refine Z_icmp_ge (tgt := 17) hC dX0_hasReader_10 (by decide) (fun c2 => ?_) (fun c2 => ?_)
    · have k := k.1 c2
      refine Z_iconst (v := 0) hC dX0_hasReader_17 rfl ?_
      exact Z_zret hC dX0_hasReader_18 rfl k.1 k.2
    · have k := k.2 c2
      refine Z_iconst (v := 1) hC dX0_hasReader_13 rfl ?_
      refine Z_goto (tgt := 18) hC dX0_hasReader_14 (by decide) ?_
      exact Z_zret hC dX0_hasReader_18 rfl k.1 k.2
theorem eX0_hasReader {o : Nat} (ho : zcls o = 0) {x1 : Int32} {X : Option Value} {Y : ZS} {s : ZS} (k : ((x1 < (0 : Int32) → (X = some (.int 0) ∧ Y = s)) ∧ (¬ x1 < (0 : Int32) → ((((s o).1 4) ≤ x1 → (X = some (.int 0) ∧ Y = s)) ∧ (¬ ((s o).1 4) ≤ x1 → (X = some (.int 1) ∧ Y = s)))))) : Ev l ad D ia d mX0_hasReader [.ref (ad o 0), .int x1] s X Y :=
  Ev.start (by decide +kernel) (Nat.le_of_ble_eq_true rfl) (fun C hC => bX0_hasReader_0 ho hC k)
set_option maxRecDepth 100000 in
set_option maxHeartbeats 4000000 in
theorem bX0_isBookOrNone_0 {o : Nat} (ho : zcls o = 0) {x1 : Int32} {C : ZC} {X : Option Value} {Y : ZS} {s : ZS} (hC : Zok ad D ia C (d + 1) cX0_isBookOrNone 2 RX0 (some .boolean)) (k : ((x1 = 9 → (X = some (.int 1) ∧ Y = s)) ∧ (¬ x1 = 9 → (∃ (r3 : Int32) (s2 : ZS), Ev l ad D ia d mX0_hasBook [.ref (ad o 0), .int x1] s (some (.int r3)) s2 ∧ ((r3 = 0 → (X = some (.int 0) ∧ Y = s2)) ∧ (¬ r3 = 0 → (X = some (.int 1) ∧ Y = s2))))))) : Z l ad D ia C X Y 0 [(0, .ref (ad o 0)), (1, .int x1)] [] s := by
  refine Z_iload_n hC dX0_isBookOrNone_0 rfl rfl ?_
  refine Z_bipush (v := 9) hC dX0_isBookOrNone_1 rfl ?_
  refine Z_icmp_eq (tgt := 14) hC dX0_isBookOrNone_3 (by decide) (fun c1 => ?_) (fun c1 => ?_)
  · have k := k.1 c1
    refine Z_iconst (v := 1) hC dX0_isBookOrNone_14 rfl ?_
    refine Z_goto (tgt := 19) hC dX0_isBookOrNone_15 (by decide) ?_
    exact Z_zret hC dX0_isBookOrNone_19 rfl k.1 k.2
  · have k := k.2 c1
    refine Z_aload_n hC dX0_isBookOrNone_6 rfl rfl ?_
    refine Z_iload_n hC dX0_isBookOrNone_7 rfl rfl ?_
    obtain ⟨r3, s2, h4, k⟩ := k
    refine Z_callV (As := [.int x1]) (rest := []) hC h4 cvX0_61 ⟨0, ho, zs_0, _, rfl, rfl⟩ rfl rfl (Nat.le_of_ble_eq_true rfl) dX0_isBookOrNone_8 ?_
    refine Z_if_eq (tgt := 18) hC dX0_isBookOrNone_11 (by decide) (fun c5 => ?_) (fun c5 => ?_)
    · have k := k.1 c5
      refine Z_iconst (v := 0) hC dX0_isBookOrNone_18 rfl ?_
      exact Z_zret hC dX0_isBookOrNone_19 rfl k.1 k.2
    · have k := k.2 c5
      refine Z_iconst (v := 1) hC dX0_isBookOrNone_14 rfl ?_
      refine Z_goto (tgt := 19) hC dX0_isBookOrNone_15 (by decide) ?_
      exact Z_zret hC dX0_isBookOrNone_19 rfl k.1 k.2
theorem eX0_isBookOrNone {o : Nat} (ho : zcls o = 0) {x1 : Int32} {X : Option Value} {Y : ZS} {s : ZS} (k : ((x1 = 9 → (X = some (.int 1) ∧ Y = s)) ∧ (¬ x1 = 9 → (∃ (r3 : Int32) (s2 : ZS), Ev l ad D ia d mX0_hasBook [.ref (ad o 0), .int x1] s (some (.int r3)) s2 ∧ ((r3 = 0 → (X = some (.int 0) ∧ Y = s2)) ∧ (¬ r3 = 0 → (X = some (.int 1) ∧ Y = s2))))))) : Ev l ad D ia (d + 1) mX0_isBookOrNone [.ref (ad o 0), .int x1] s X Y :=
  Ev.start (by decide +kernel) (Nat.le_of_ble_eq_true rfl) (fun C hC => bX0_isBookOrNone_0 ho hC k)
set_option maxRecDepth 100000 in
set_option maxHeartbeats 4000000 in
theorem bX0_isDone_0 {o : Nat} (ho : zcls o = 0) {x1 : Int32} {C : ZC} {X : Option Value} {Y : ZS} {s : ZS} (hC : Zok ad D ia C (d + 1) cX0_isDone 2 RX0 (some .boolean)) (k : (vp_in x1 4 ∧ (∃ (r3 : Int32) (s2 : ZS), Ev l ad D ia d mX0_hasBook [.ref (ad o 0), .int ((s o).2.2 6 x1.toNatClampNeg)] s (some (.int r3)) s2 ∧ ((¬ r3 = 0 → (X = some (.int 0) ∧ Y = s2)) ∧ (r3 = 0 → (X = some (.int 1) ∧ Y = s2)))))) : Z l ad D ia C X Y 0 [(0, .ref (ad o 0)), (1, .int x1)] [] s := by
  refine Z_aload_n hC dX0_isDone_0 rfl rfl ?_
  refine Z_aload_n hC dX0_isDone_1 rfl rfl ?_
  refine Z_get (o := o) (c := 0) (k := 6) (v := .ref (ad o 7)) hC ho zs_0 lkX0_24 rfl dX0_isDone_2 ?_
  refine Z_iload_n hC dX0_isDone_5 rfl rfl ?_
  obtain ⟨h1, k⟩ := k
  refine Z_iald (o := o) (k := 6) hC (zis_of ho rfl) h1 dX0_isDone_6 ?_
  obtain ⟨r3, s2, h4, k⟩ := k
  refine Z_callV (As := [.int ((s o).2.2 6 x1.toNatClampNeg)]) (rest := []) hC h4 cvX0_61 ⟨0, ho, zs_0, _, rfl, rfl⟩ rfl rfl (Nat.le_of_ble_eq_true rfl) dX0_isDone_7 ?_
  refine Z_if_ne (tgt := 17) hC dX0_isDone_10 (by decide) (fun c5 => ?_) (fun c5 => ?_)
  · have k := k.1 c5
    refine Z_iconst (v := 0) hC dX0_isDone_17 rfl ?_
    exact Z_zret hC dX0_isDone_18 rfl k.1 k.2
  · have k := k.2 c5
    refine Z_iconst (v := 1) hC dX0_isDone_13 rfl ?_
    refine Z_goto (tgt := 18) hC dX0_isDone_14 (by decide) ?_
    exact Z_zret hC dX0_isDone_18 rfl k.1 k.2
theorem eX0_isDone {o : Nat} (ho : zcls o = 0) {x1 : Int32} {X : Option Value} {Y : ZS} {s : ZS} (k : (vp_in x1 4 ∧ (∃ (r3 : Int32) (s2 : ZS), Ev l ad D ia d mX0_hasBook [.ref (ad o 0), .int ((s o).2.2 6 x1.toNatClampNeg)] s (some (.int r3)) s2 ∧ ((¬ r3 = 0 → (X = some (.int 0) ∧ Y = s2)) ∧ (r3 = 0 → (X = some (.int 1) ∧ Y = s2)))))) : Ev l ad D ia (d + 1) mX0_isDone [.ref (ad o 0), .int x1] s X Y :=
  Ev.start (by decide +kernel) (Nat.le_of_ble_eq_true rfl) (fun C hC => bX0_isDone_0 ho hC k)
set_option maxRecDepth 100000 in
set_option maxHeartbeats 4000000 in
theorem bX0_hasHad_0 {o : Nat} (ho : zcls o = 0) {x1 : Int32} {x2 : Int32} {C : ZC} {X : Option Value} {Y : ZS} {s : ZS} (hC : Zok ad D ia C d cX0_hasHad 3 RX0 (some .boolean)) (k : (vp_in x1 4 ∧ ((((((s o).2.2 8 x1.toNatClampNeg) >>> (x2 &&& 31)) &&& 1) = 0 → (X = some (.int 0) ∧ Y = s)) ∧ (¬ ((((s o).2.2 8 x1.toNatClampNeg) >>> (x2 &&& 31)) &&& 1) = 0 → (X = some (.int 1) ∧ Y = s))))) : Z l ad D ia C X Y 0 [(0, .ref (ad o 0)), (1, .int x1), (2, .int x2)] [] s := by
  refine Z_aload_n hC dX0_hasHad_0 rfl rfl ?_
  refine Z_get (o := o) (c := 0) (k := 8) (v := .ref (ad o 9)) hC ho zs_0 lkX0_30 rfl dX0_hasHad_1 ?_
  refine Z_iload_n hC dX0_hasHad_4 rfl rfl ?_
  obtain ⟨h1, k⟩ := k
  refine Z_iald (o := o) (k := 8) hC (zis_of ho rfl) h1 dX0_hasHad_5 ?_
  refine Z_iload_n hC dX0_hasHad_6 rfl rfl ?_
  refine Z_ishr hC dX0_hasHad_7 ?_
  refine Z_iconst (v := 1) hC dX0_hasHad_8 rfl ?_
  refine Z_iand hC dX0_hasHad_9 ?_
  refine Z_if_eq (tgt := 17) hC dX0_hasHad_10 (by decide) (fun c2 => ?_) (fun c2 => ?_)
  · have k := k.1 c2
    refine Z_iconst (v := 0) hC dX0_hasHad_17 rfl ?_
    exact Z_zret hC dX0_hasHad_18 rfl k.1 k.2
  · have k := k.2 c2
    refine Z_iconst (v := 1) hC dX0_hasHad_13 rfl ?_
    refine Z_goto (tgt := 18) hC dX0_hasHad_14 (by decide) ?_
    exact Z_zret hC dX0_hasHad_18 rfl k.1 k.2
theorem eX0_hasHad {o : Nat} (ho : zcls o = 0) {x1 : Int32} {x2 : Int32} {X : Option Value} {Y : ZS} {s : ZS} (k : (vp_in x1 4 ∧ ((((((s o).2.2 8 x1.toNatClampNeg) >>> (x2 &&& 31)) &&& 1) = 0 → (X = some (.int 0) ∧ Y = s)) ∧ (¬ ((((s o).2.2 8 x1.toNatClampNeg) >>> (x2 &&& 31)) &&& 1) = 0 → (X = some (.int 1) ∧ Y = s))))) : Ev l ad D ia d mX0_hasHad [.ref (ad o 0), .int x1, .int x2] s X Y :=
  Ev.start (by decide +kernel) (Nat.le_of_ble_eq_true rfl) (fun C hC => bX0_hasHad_0 ho hC k)
set_option maxRecDepth 100000 in
set_option maxHeartbeats 4000000 in
theorem bX0_whoAreDone_0 {o : Nat} (ho : zcls o = 0) {C : ZC} {X : Option Value} {Y : ZS} {s : ZS} (hC : Zok ad D ia C (d + 1) cX0_whoAreDone 3 RX0 (some .int)) (k : Z l ad D ia C X Y 4 [(0, .ref (ad o 0)), (1, .int 0), (2, .int 0)] [] s) : Z l ad D ia C X Y 0 [(0, .ref (ad o 0))] [] s := by
  refine Z_iconst (v := 0) hC dX0_whoAreDone_0 rfl ?_
  refine Z_istore_n (V2 := [(1, .int 0), (0, .ref (ad o 0))]) hC dX0_whoAreDone_1 rfl (by decide) rfl ?_
  refine Z_iconst (v := 0) hC dX0_whoAreDone_2 rfl ?_
  refine Z_istore_n (V2 := [(2, .int 0), (1, .int 0), (0, .ref (ad o 0))]) hC dX0_whoAreDone_3 rfl (by decide) rfl ?_
  exact Z_pick [2, 1, 0] rfl k
theorem eX0_whoAreDone {o : Nat} (ho : zcls o = 0) {X : Option Value} {Y : ZS} {s : ZS} (k : ∀ C : ZC, Zok ad D ia C (d + 1) cX0_whoAreDone 3 RX0 (some .int) → Z l ad D ia C X Y 4 [(0, .ref (ad o 0)), (1, .int 0), (2, .int 0)] [] s) : Ev l ad D ia (d + 1) mX0_whoAreDone [.ref (ad o 0)] s X Y :=
  Ev.start (by decide +kernel) (Nat.le_of_ble_eq_true rfl) (fun C hC => bX0_whoAreDone_0 ho hC (k C hC))
set_option maxRecDepth 100000 in
set_option maxHeartbeats 4000000 in
theorem bX0_whoAreDone_4 {o : Nat} (ho : zcls o = 0) {x1 : Int32} {x2 : Int32} {C : ZC} {X : Option Value} {Y : ZS} {s : ZS} (hC : Zok ad D ia C (d + 1) cX0_whoAreDone 3 RX0 (some .int)) (k : ((((s o).1 4) ≤ x2 → (X = some (.int x1) ∧ Y = s)) ∧ (¬ ((s o).1 4) ≤ x2 → (∃ (r3 : Int32) (s2 : ZS), Ev l ad D ia d mX0_isDone [.ref (ad o 0), .int x2] s (some (.int r3)) s2 ∧ ((r3 = 0 → Z l ad D ia C X Y 4 [(0, .ref (ad o 0)), (1, .int x1), (2, .int (x2 + 1))] [] s2) ∧ (¬ r3 = 0 → Z l ad D ia C X Y 4 [(0, .ref (ad o 0)), (1, .int (x1 ||| (1 <<< (x2 &&& 31)))), (2, .int (x2 + 1))] [] s2)))))) : Z l ad D ia C X Y 4 [(0, .ref (ad o 0)), (1, .int x1), (2, .int x2)] [] s := by
  refine Z_iload_n hC dX0_whoAreDone_4 rfl rfl ?_
  refine Z_aload_n hC dX0_whoAreDone_5 rfl rfl ?_
  refine Z_get (o := o) (c := 0) (k := 4) (v := .int ((s o).1 4)) hC ho zs_0 lkX0_37 rfl dX0_whoAreDone_6 ?_
  refine Z_icmp_ge (tgt := 32) hC dX0_whoAreDone_9 (by decide) (fun c1 => ?_) (fun c1 => ?_)
  · have k := k.1 c1
    refine Z_iload_n hC dX0_whoAreDone_32 rfl rfl ?_
    exact Z_iret hC dX0_whoAreDone_33 k.1 k.2
  · have k := k.2 c1
    refine Z_aload_n hC dX0_whoAreDone_12 rfl rfl ?_
    refine Z_iload_n hC dX0_whoAreDone_13 rfl rfl ?_
    obtain ⟨r3, s2, h4, k⟩ := k
    refine Z_callV (As := [.int x2]) (rest := []) hC h4 cvX0_65 ⟨0, ho, zs_0, _, rfl, rfl⟩ rfl rfl (Nat.le_of_ble_eq_true rfl) dX0_whoAreDone_14 ?_
    refine Z_if_eq (tgt := 26) hC dX0_whoAreDone_17 (by decide) (fun c5 => ?_) (fun c5 => ?_)
    · have k := k.1 c5
      refine Z_iinc (v := x2 + 1) (V2 := [(2, .int (x2 + 1)), (0, .ref (ad o 0)), (1, .int x1)]) hC dX0_whoAreDone_26 rfl rfl (by decide) rfl ?_
      refine Z_goto (tgt := 4) hC dX0_whoAreDone_29 (by decide) ?_
      exact Z_pick [1, 2, 0] rfl k
    · have k := k.2 c5
      refine Z_iload_n hC dX0_whoAreDone_20 rfl rfl ?_
      refine Z_iconst (v := 1) hC dX0_whoAreDone_21 rfl ?_
      refine Z_iload_n hC dX0_whoAreDone_22 rfl rfl ?_
      refine Z_ishl hC dX0_whoAreDone_23 ?_
      refine Z_ior hC dX0_whoAreDone_24 ?_
      refine Z_istore_n (V2 := [(1, .int (x1 ||| (1 <<< (x2 &&& 31)))), (0, .ref (ad o 0)), (2, .int x2)]) hC dX0_whoAreDone_25 rfl (by decide) rfl ?_
      refine Z_iinc (v := x2 + 1) (V2 := [(2, .int (x2 + 1)), (1, .int (x1 ||| (1 <<< (x2 &&& 31)))), (0, .ref (ad o 0))]) hC dX0_whoAreDone_26 rfl rfl (by decide) rfl ?_
      refine Z_goto (tgt := 4) hC dX0_whoAreDone_29 (by decide) ?_
      exact Z_pick [2, 1, 0] rfl k
set_option maxRecDepth 100000 in
set_option maxHeartbeats 4000000 in
theorem bX0_whoHad_0 {o : Nat} (ho : zcls o = 0) {x1 : Int32} {C : ZC} {X : Option Value} {Y : ZS} {s : ZS} (hC : Zok ad D ia C (d + 1) cX0_whoHad 4 RX0 (some .int)) (k : Z l ad D ia C X Y 4 [(0, .ref (ad o 0)), (1, .int x1), (2, .int 0), (3, .int 0)] [] s) : Z l ad D ia C X Y 0 [(0, .ref (ad o 0)), (1, .int x1)] [] s := by
  refine Z_iconst (v := 0) hC dX0_whoHad_0 rfl ?_
  refine Z_istore_n (V2 := [(2, .int 0), (0, .ref (ad o 0)), (1, .int x1)]) hC dX0_whoHad_1 rfl (by decide) rfl ?_
  refine Z_iconst (v := 0) hC dX0_whoHad_2 rfl ?_
  refine Z_istore_n (V2 := [(3, .int 0), (2, .int 0), (0, .ref (ad o 0)), (1, .int x1)]) hC dX0_whoHad_3 rfl (by decide) rfl ?_
  exact Z_pick [2, 3, 1, 0] rfl k
theorem eX0_whoHad {o : Nat} (ho : zcls o = 0) {x1 : Int32} {X : Option Value} {Y : ZS} {s : ZS} (k : ∀ C : ZC, Zok ad D ia C (d + 1) cX0_whoHad 4 RX0 (some .int) → Z l ad D ia C X Y 4 [(0, .ref (ad o 0)), (1, .int x1), (2, .int 0), (3, .int 0)] [] s) : Ev l ad D ia (d + 1) mX0_whoHad [.ref (ad o 0), .int x1] s X Y :=
  Ev.start (by decide +kernel) (Nat.le_of_ble_eq_true rfl) (fun C hC => bX0_whoHad_0 ho hC (k C hC))
set_option maxRecDepth 100000 in
set_option maxHeartbeats 4000000 in
theorem bX0_whoHad_4 {o : Nat} (ho : zcls o = 0) {x1 : Int32} {x2 : Int32} {x3 : Int32} {C : ZC} {X : Option Value} {Y : ZS} {s : ZS} (hC : Zok ad D ia C (d + 1) cX0_whoHad 4 RX0 (some .int)) (k : ((((s o).1 4) ≤ x3 → (X = some (.int x2) ∧ Y = s)) ∧ (¬ ((s o).1 4) ≤ x3 → (∃ (r3 : Int32) (s2 : ZS), Ev l ad D ia d mX0_hasHad [.ref (ad o 0), .int x3, .int x1] s (some (.int r3)) s2 ∧ ((r3 = 0 → Z l ad D ia C X Y 4 [(0, .ref (ad o 0)), (1, .int x1), (2, .int x2), (3, .int (x3 + 1))] [] s2) ∧ (¬ r3 = 0 → Z l ad D ia C X Y 4 [(0, .ref (ad o 0)), (1, .int x1), (2, .int (x2 ||| (1 <<< (x3 &&& 31)))), (3, .int (x3 + 1))] [] s2)))))) : Z l ad D ia C X Y 4 [(0, .ref (ad o 0)), (1, .int x1), (2, .int x2), (3, .int x3)] [] s := by
  refine Z_iload_n hC dX0_whoHad_4 rfl rfl ?_
  refine Z_aload_n hC dX0_whoHad_5 rfl rfl ?_
  refine Z_get (o := o) (c := 0) (k := 4) (v := .int ((s o).1 4)) hC ho zs_0 lkX0_37 rfl dX0_whoHad_6 ?_
  refine Z_icmp_ge (tgt := 33) hC dX0_whoHad_9 (by decide) (fun c1 => ?_) (fun c1 => ?_)
  · have k := k.1 c1
    refine Z_iload_n hC dX0_whoHad_33 rfl rfl ?_
    exact Z_iret hC dX0_whoHad_34 k.1 k.2
  · have k := k.2 c1
    refine Z_aload_n hC dX0_whoHad_12 rfl rfl ?_
    refine Z_iload_n hC dX0_whoHad_13 rfl rfl ?_
    refine Z_iload_n hC dX0_whoHad_14 rfl rfl ?_
    obtain ⟨r3, s2, h4, k⟩ := k
    refine Z_callV (As := [.int x3, .int x1]) (rest := []) hC h4 cvX0_68 ⟨0, ho, zs_0, _, rfl, rfl⟩ rfl rfl (Nat.le_of_ble_eq_true rfl) dX0_whoHad_15 ?_
    refine Z_if_eq (tgt := 27) hC dX0_whoHad_18 (by decide) (fun c5 => ?_) (fun c5 => ?_)
    · have k := k.1 c5
      refine Z_iinc (v := x3 + 1) (V2 := [(3, .int (x3 + 1)), (0, .ref (ad o 0)), (1, .int x1), (2, .int x2)]) hC dX0_whoHad_27 rfl rfl (by decide) rfl ?_
      refine Z_goto (tgt := 4) hC dX0_whoHad_30 (by decide) ?_
      exact Z_pick [1, 2, 3, 0] rfl k
    · have k := k.2 c5
      refine Z_iload_n hC dX0_whoHad_21 rfl rfl ?_
      refine Z_iconst (v := 1) hC dX0_whoHad_22 rfl ?_
      refine Z_iload_n hC dX0_whoHad_23 rfl rfl ?_
      refine Z_ishl hC dX0_whoHad_24 ?_
      refine Z_ior hC dX0_whoHad_25 ?_
      refine Z_istore_n (V2 := [(2, .int (x2 ||| (1 <<< (x3 &&& 31)))), (0, .ref (ad o 0)), (1, .int x1), (3, .int x3)]) hC dX0_whoHad_26 rfl (by decide) rfl ?_
      refine Z_iinc (v := x3 + 1) (V2 := [(3, .int (x3 + 1)), (2, .int (x2 ||| (1 <<< (x3 &&& 31)))), (0, .ref (ad o 0)), (1, .int x1)]) hC dX0_whoHad_27 rfl rfl (by decide) rfl ?_
      refine Z_goto (tgt := 4) hC dX0_whoHad_30 (by decide) ?_
      exact Z_pick [2, 3, 1, 0] rfl k
set_option maxRecDepth 100000 in
set_option maxHeartbeats 4000000 in
theorem bX0_minutesFor_0 {o : Nat} (ho : zcls o = 0) {x1 : Int32} {x2 : Int32} {C : ZC} {X : Option Value} {Y : ZS} {s : ZS} (hC : Zok ad D ia C (d + 1) cX0_minutesFor 6 RX0 (some .int)) (k : (vp_in x2 8 ∧ (vp_in x2 8 ∧ (vp_in x1 4 ∧ ((((s o).2.2 5 x1.toNatClampNeg) = 1 → (X = some (.int ((mabs (((s o).2.2 1 x2.toNatClampNeg) - ((s o).1 9))) + (2 * (2 * ((s o).2.2 2 x2.toNatClampNeg))))) ∧ Y = s)) ∧ (((s o).2.2 5 x1.toNatClampNeg) = 2 → (X = some (.int ((mabs (((s o).2.2 1 x2.toNatClampNeg) - ((s o).1 9))) + (2 * ((((s o).2.2 2 x2.toNatClampNeg) + 1) / 2)))) ∧ Y = s)) ∧ (((s o).2.2 5 x1.toNatClampNeg) = 3 → (X = some (.int ((mabs (((s o).2.2 1 x2.toNatClampNeg) - ((s o).1 9))) + (2 * (((2 * ((s o).2.2 2 x2.toNatClampNeg)) / 2) + 1)))) ∧ Y = s)) ∧ ((¬ ((s o).2.2 5 x1.toNatClampNeg) = 1 ∧ ¬ ((s o).2.2 5 x1.toNatClampNeg) = 2 ∧ ¬ ((s o).2.2 5 x1.toNatClampNeg) = 3) → (X = some (.int ((mabs (((s o).2.2 1 x2.toNatClampNeg) - ((s o).1 9))) + (2 * ((s o).2.2 2 x2.toNatClampNeg)))) ∧ Y = s))))))) : Z l ad D ia C X Y 0 [(0, .ref (ad o 0)), (1, .int x1), (2, .int x2)] [] s := by
  refine Z_aload_n hC dX0_minutesFor_0 rfl rfl ?_
  refine Z_get (o := o) (c := 0) (k := 2) (v := .ref (ad o 3)) hC ho zs_0 lkX0_15 rfl dX0_minutesFor_1 ?_
  refine Z_iload_n hC dX0_minutesFor_4 rfl rfl ?_
  obtain ⟨h1, k⟩ := k
  refine Z_iald (o := o) (k := 2) hC (zis_of ho rfl) h1 dX0_minutesFor_5 ?_
  refine Z_istore_n (V2 := [(3, .int ((s o).2.2 2 x2.toNatClampNeg)), (0, .ref (ad o 0)), (1, .int x1), (2, .int x2)]) hC dX0_minutesFor_6 rfl (by decide) rfl ?_
  refine Z_iconst (v := 2) hC dX0_minutesFor_7 rfl ?_
  refine Z_iload_n hC dX0_minutesFor_8 rfl rfl ?_
  refine Z_imul hC dX0_minutesFor_9 ?_
  refine Z_istore (V2 := [(4, .int (2 * ((s o).2.2 2 x2.toNatClampNeg))), (3, .int ((s o).2.2 2 x2.toNatClampNeg)), (0, .ref (ad o 0)), (1, .int x1), (2, .int x2)]) hC dX0_minutesFor_10 (by decide) rfl ?_
  refine Z_aload_n hC dX0_minutesFor_12 rfl rfl ?_
  refine Z_get (o := o) (c := 0) (k := 1) (v := .ref (ad o 2)) hC ho zs_0 lkX0_9 rfl dX0_minutesFor_13 ?_
  refine Z_iload_n hC dX0_minutesFor_16 rfl rfl ?_
  obtain ⟨h2, k⟩ := k
  refine Z_iald (o := o) (k := 1) hC (zis_of ho rfl) h2 dX0_minutesFor_17 ?_
  refine Z_aload_n hC dX0_minutesFor_18 rfl rfl ?_
  refine Z_get (o := o) (c := 0) (k := 9) (v := .int ((s o).1 9)) hC ho zs_0 lkX0_40 rfl dX0_minutesFor_19 ?_
  refine Z_isub hC dX0_minutesFor_22 ?_
  refine Z_mabs hC mlX0_72 ms_abs mi_math mc_abs (Nat.le_of_ble_eq_true rfl) dX0_minutesFor_23 ?_
  refine Z_istore (V2 := [(5, .int (mabs (((s o).2.2 1 x2.toNatClampNeg) - ((s o).1 9)))), (4, .int (2 * ((s o).2.2 2 x2.toNatClampNeg))), (3, .int ((s o).2.2 2 x2.toNatClampNeg)), (0, .ref (ad o 0)), (1, .int x1), (2, .int x2)]) hC dX0_minutesFor_26 (by decide) rfl ?_
  refine Z_aload_n hC dX0_minutesFor_28 rfl rfl ?_
  refine Z_get (o := o) (c := 0) (k := 5) (v := .ref (ad o 6)) hC ho zs_0 lkX0_21 rfl dX0_minutesFor_29 ?_
  refine Z_iload_n hC dX0_minutesFor_32 rfl rfl ?_
  obtain ⟨h3, k⟩ := k
  refine Z_iald (o := o) (k := 5) hC (zis_of ho rfl) h3 dX0_minutesFor_33 ?_
  by_cases c4 : ((s o).2.2 5 x1.toNatClampNeg) = 1
  · have c4x : (((s o).2.2 5 x1.toNatClampNeg)).toInt = 1 := by rw [c4]; rfl
    have k := k.1 c4
    refine Z_tabIn (tgt := 60) hC dX0_minutesFor_34 (by omega) (by omega) (by rw [c4x]; rfl) (by decide) ?_
    refine Z_iload hC dX0_minutesFor_60 rfl ?_
    refine Z_iconst (v := 2) hC dX0_minutesFor_62 rfl ?_
    refine Z_iload hC dX0_minutesFor_63 rfl ?_
    refine Z_imul hC dX0_minutesFor_65 ?_
    refine Z_iadd hC dX0_minutesFor_66 ?_
    exact Z_iret hC dX0_minutesFor_67 k.1 k.2
  by_cases c5 : ((s o).2.2 5 x1.toNatClampNeg) = 2
  · have c5x : (((s o).2.2 5 x1.toNatClampNeg)).toInt = 2 := by rw [c5]; rfl
    have k := k.2.1 c5
    refine Z_tabIn (tgt := 68) hC dX0_minutesFor_34 (by omega) (by omega) (by rw [c5x]; rfl) (by decide) ?_
    refine Z_iload hC dX0_minutesFor_68 rfl ?_
    refine Z_iconst (v := 2) hC dX0_minutesFor_70 rfl ?_
    refine Z_iload_n hC dX0_minutesFor_71 rfl rfl ?_
    refine Z_iconst (v := 1) hC dX0_minutesFor_72 rfl ?_
    refine Z_iadd hC dX0_minutesFor_73 ?_
    refine Z_iconst (v := 2) hC dX0_minutesFor_74 rfl ?_
    refine Z_idiv hC dX0_minutesFor_75 (by decide) ?_
    refine Z_imul hC dX0_minutesFor_76 ?_
    refine Z_iadd hC dX0_minutesFor_77 ?_
    exact Z_iret hC dX0_minutesFor_78 k.1 k.2
  by_cases c7 : ((s o).2.2 5 x1.toNatClampNeg) = 3
  · have c7x : (((s o).2.2 5 x1.toNatClampNeg)).toInt = 3 := by rw [c7]; rfl
    have k := k.2.2.1 c7
    refine Z_tabIn (tgt := 79) hC dX0_minutesFor_34 (by omega) (by omega) (by rw [c7x]; rfl) (by decide) ?_
    refine Z_iload hC dX0_minutesFor_79 rfl ?_
    refine Z_iconst (v := 2) hC dX0_minutesFor_81 rfl ?_
    refine Z_iload hC dX0_minutesFor_82 rfl ?_
    refine Z_iconst (v := 2) hC dX0_minutesFor_84 rfl ?_
    refine Z_idiv hC dX0_minutesFor_85 (by decide) ?_
    refine Z_iconst (v := 1) hC dX0_minutesFor_86 rfl ?_
    refine Z_iadd hC dX0_minutesFor_87 ?_
    refine Z_imul hC dX0_minutesFor_88 ?_
    refine Z_iadd hC dX0_minutesFor_89 ?_
    exact Z_iret hC dX0_minutesFor_90 k.1 k.2
  have k := k.2.2.2 ⟨c4, c5, c7⟩
  have z9 : (((s o).2.2 5 x1.toNatClampNeg)).toInt < 1 ∨ 3 < (((s o).2.2 5 x1.toNatClampNeg)).toInt := by
    apply tab_out
    intro z h1 h2
    rcases (show z = 1 ∨ z = 2 ∨ z = 3 by omega) with rfl | rfl | rfl
    · exact fun e => c4 (Int32.toInt_inj.mp (show (((s o).2.2 5 x1.toNatClampNeg)).toInt = ((1 : Int32)).toInt from e))
    · exact fun e => c5 (Int32.toInt_inj.mp (show (((s o).2.2 5 x1.toNatClampNeg)).toInt = ((2 : Int32)).toInt from e))
    · exact fun e => c7 (Int32.toInt_inj.mp (show (((s o).2.2 5 x1.toNatClampNeg)).toInt = ((3 : Int32)).toInt from e))
  refine Z_tabOut (tgt := 91) hC dX0_minutesFor_34 z9 (by decide) ?_
  refine Z_iload hC dX0_minutesFor_91 rfl ?_
  refine Z_iconst (v := 2) hC dX0_minutesFor_93 rfl ?_
  refine Z_iload_n hC dX0_minutesFor_94 rfl rfl ?_
  refine Z_imul hC dX0_minutesFor_95 ?_
  refine Z_iadd hC dX0_minutesFor_96 ?_
  exact Z_iret hC dX0_minutesFor_97 k.1 k.2
theorem eX0_minutesFor {o : Nat} (ho : zcls o = 0) {x1 : Int32} {x2 : Int32} {X : Option Value} {Y : ZS} {s : ZS} (k : (vp_in x2 8 ∧ (vp_in x2 8 ∧ (vp_in x1 4 ∧ ((((s o).2.2 5 x1.toNatClampNeg) = 1 → (X = some (.int ((mabs (((s o).2.2 1 x2.toNatClampNeg) - ((s o).1 9))) + (2 * (2 * ((s o).2.2 2 x2.toNatClampNeg))))) ∧ Y = s)) ∧ (((s o).2.2 5 x1.toNatClampNeg) = 2 → (X = some (.int ((mabs (((s o).2.2 1 x2.toNatClampNeg) - ((s o).1 9))) + (2 * ((((s o).2.2 2 x2.toNatClampNeg) + 1) / 2)))) ∧ Y = s)) ∧ (((s o).2.2 5 x1.toNatClampNeg) = 3 → (X = some (.int ((mabs (((s o).2.2 1 x2.toNatClampNeg) - ((s o).1 9))) + (2 * (((2 * ((s o).2.2 2 x2.toNatClampNeg)) / 2) + 1)))) ∧ Y = s)) ∧ ((¬ ((s o).2.2 5 x1.toNatClampNeg) = 1 ∧ ¬ ((s o).2.2 5 x1.toNatClampNeg) = 2 ∧ ¬ ((s o).2.2 5 x1.toNatClampNeg) = 3) → (X = some (.int ((mabs (((s o).2.2 1 x2.toNatClampNeg) - ((s o).1 9))) + (2 * ((s o).2.2 2 x2.toNatClampNeg)))) ∧ Y = s))))))) : Ev l ad D ia (d + 1) mX0_minutesFor [.ref (ad o 0), .int x1, .int x2] s X Y :=
  Ev.start (by decide +kernel) (Nat.le_of_ble_eq_true rfl) (fun C hC => bX0_minutesFor_0 ho hC k)
set_option maxRecDepth 100000 in
set_option maxHeartbeats 4000000 in
theorem bX0_dizzyBy_0 {o : Nat} (ho : zcls o = 0) {x1 : Int32} {x2 : Int32} {C : ZC} {X : Option Value} {Y : ZS} {s : ZS} (hC : Zok ad D ia C (d + 1) cX0_dizzyBy 5 RX0 (some .int)) (k : (vp_in x2 8 ∧ (vp_in x1 4 ∧ ((((s o).2.2 5 x1.toNatClampNeg) = 1 → (X = some (.int (((s o).2.2 2 x2.toNatClampNeg) + (mmax 0 (((s o).2.2 2 x2.toNatClampNeg) - 5)))) ∧ Y = s)) ∧ (((s o).2.2 5 x1.toNatClampNeg) = 2 → (X = some (.int (2 * ((s o).2.2 2 x2.toNatClampNeg))) ∧ Y = s)) ∧ (((s o).2.2 5 x1.toNatClampNeg) = 3 → (X = some (.int ((((s o).2.2 2 x2.toNatClampNeg) + (mmax 0 (((s o).2.2 2 x2.toNatClampNeg) - 5))) / 3)) ∧ Y = s)) ∧ ((¬ ((s o).2.2 5 x1.toNatClampNeg) = 1 ∧ ¬ ((s o).2.2 5 x1.toNatClampNeg) = 2 ∧ ¬ ((s o).2.2 5 x1.toNatClampNeg) = 3) → (X = some (.int ((s o).2.2 2 x2.toNatClampNeg)) ∧ Y = s)))))) : Z l ad D ia C X Y 0 [(0, .ref (ad o 0)), (1, .int x1), (2, .int x2)] [] s := by
  refine Z_aload_n hC dX0_dizzyBy_0 rfl rfl ?_
  refine Z_get (o := o) (c := 0) (k := 2) (v := .ref (ad o 3)) hC ho zs_0 lkX0_15 rfl dX0_dizzyBy_1 ?_
  refine Z_iload_n hC dX0_dizzyBy_4 rfl rfl ?_
  obtain ⟨h1, k⟩ := k
  refine Z_iald (o := o) (k := 2) hC (zis_of ho rfl) h1 dX0_dizzyBy_5 ?_
  refine Z_istore_n (V2 := [(3, .int ((s o).2.2 2 x2.toNatClampNeg)), (0, .ref (ad o 0)), (1, .int x1), (2, .int x2)]) hC dX0_dizzyBy_6 rfl (by decide) rfl ?_
  refine Z_iload_n hC dX0_dizzyBy_7 rfl rfl ?_
  refine Z_iconst (v := 0) hC dX0_dizzyBy_8 rfl ?_
  refine Z_iload_n hC dX0_dizzyBy_9 rfl rfl ?_
  refine Z_iconst (v := 5) hC dX0_dizzyBy_10 rfl ?_
  refine Z_isub hC dX0_dizzyBy_11 ?_
  refine Z_mmax hC mlX0_78 ms_max mi_math mc_max (Nat.le_of_ble_eq_true rfl) dX0_dizzyBy_12 ?_
  refine Z_iadd hC dX0_dizzyBy_15 ?_
  refine Z_istore (V2 := [(4, .int (((s o).2.2 2 x2.toNatClampNeg) + (mmax 0 (((s o).2.2 2 x2.toNatClampNeg) - 5)))), (3, .int ((s o).2.2 2 x2.toNatClampNeg)), (0, .ref (ad o 0)), (1, .int x1), (2, .int x2)]) hC dX0_dizzyBy_16 (by decide) rfl ?_
  refine Z_aload_n hC dX0_dizzyBy_18 rfl rfl ?_
  refine Z_get (o := o) (c := 0) (k := 5) (v := .ref (ad o 6)) hC ho zs_0 lkX0_21 rfl dX0_dizzyBy_19 ?_
  refine Z_iload_n hC dX0_dizzyBy_22 rfl rfl ?_
  obtain ⟨h2, k⟩ := k
  refine Z_iald (o := o) (k := 5) hC (zis_of ho rfl) h2 dX0_dizzyBy_23 ?_
  by_cases c3 : ((s o).2.2 5 x1.toNatClampNeg) = 1
  · have c3x : (((s o).2.2 5 x1.toNatClampNeg)).toInt = 1 := by rw [c3]; rfl
    have k := k.1 c3
    refine Z_tabIn (tgt := 52) hC dX0_dizzyBy_24 (by omega) (by omega) (by rw [c3x]; rfl) (by decide) ?_
    refine Z_iload hC dX0_dizzyBy_52 rfl ?_
    exact Z_iret hC dX0_dizzyBy_54 k.1 k.2
  by_cases c4 : ((s o).2.2 5 x1.toNatClampNeg) = 2
  · have c4x : (((s o).2.2 5 x1.toNatClampNeg)).toInt = 2 := by rw [c4]; rfl
    have k := k.2.1 c4
    refine Z_tabIn (tgt := 55) hC dX0_dizzyBy_24 (by omega) (by omega) (by rw [c4x]; rfl) (by decide) ?_
    refine Z_iconst (v := 2) hC dX0_dizzyBy_55 rfl ?_
    refine Z_iload_n hC dX0_dizzyBy_56 rfl rfl ?_
    refine Z_imul hC dX0_dizzyBy_57 ?_
    exact Z_iret hC dX0_dizzyBy_58 k.1 k.2
  by_cases c5 : ((s o).2.2 5 x1.toNatClampNeg) = 3
  · have c5x : (((s o).2.2 5 x1.toNatClampNeg)).toInt = 3 := by rw [c5]; rfl
    have k := k.2.2.1 c5
    refine Z_tabIn (tgt := 59) hC dX0_dizzyBy_24 (by omega) (by omega) (by rw [c5x]; rfl) (by decide) ?_
    refine Z_iload hC dX0_dizzyBy_59 rfl ?_
    refine Z_iconst (v := 3) hC dX0_dizzyBy_61 rfl ?_
    refine Z_idiv hC dX0_dizzyBy_62 (by decide) ?_
    exact Z_iret hC dX0_dizzyBy_63 k.1 k.2
  have k := k.2.2.2 ⟨c3, c4, c5⟩
  have z7 : (((s o).2.2 5 x1.toNatClampNeg)).toInt < 1 ∨ 3 < (((s o).2.2 5 x1.toNatClampNeg)).toInt := by
    apply tab_out
    intro z h1 h2
    rcases (show z = 1 ∨ z = 2 ∨ z = 3 by omega) with rfl | rfl | rfl
    · exact fun e => c3 (Int32.toInt_inj.mp (show (((s o).2.2 5 x1.toNatClampNeg)).toInt = ((1 : Int32)).toInt from e))
    · exact fun e => c4 (Int32.toInt_inj.mp (show (((s o).2.2 5 x1.toNatClampNeg)).toInt = ((2 : Int32)).toInt from e))
    · exact fun e => c5 (Int32.toInt_inj.mp (show (((s o).2.2 5 x1.toNatClampNeg)).toInt = ((3 : Int32)).toInt from e))
  refine Z_tabOut (tgt := 64) hC dX0_dizzyBy_24 z7 (by decide) ?_
  refine Z_iload_n hC dX0_dizzyBy_64 rfl rfl ?_
  exact Z_iret hC dX0_dizzyBy_65 k.1 k.2
theorem eX0_dizzyBy {o : Nat} (ho : zcls o = 0) {x1 : Int32} {x2 : Int32} {X : Option Value} {Y : ZS} {s : ZS} (k : (vp_in x2 8 ∧ (vp_in x1 4 ∧ ((((s o).2.2 5 x1.toNatClampNeg) = 1 → (X = some (.int (((s o).2.2 2 x2.toNatClampNeg) + (mmax 0 (((s o).2.2 2 x2.toNatClampNeg) - 5)))) ∧ Y = s)) ∧ (((s o).2.2 5 x1.toNatClampNeg) = 2 → (X = some (.int (2 * ((s o).2.2 2 x2.toNatClampNeg))) ∧ Y = s)) ∧ (((s o).2.2 5 x1.toNatClampNeg) = 3 → (X = some (.int ((((s o).2.2 2 x2.toNatClampNeg) + (mmax 0 (((s o).2.2 2 x2.toNatClampNeg) - 5))) / 3)) ∧ Y = s)) ∧ ((¬ ((s o).2.2 5 x1.toNatClampNeg) = 1 ∧ ¬ ((s o).2.2 5 x1.toNatClampNeg) = 2 ∧ ¬ ((s o).2.2 5 x1.toNatClampNeg) = 3) → (X = some (.int ((s o).2.2 2 x2.toNatClampNeg)) ∧ Y = s)))))) : Ev l ad D ia (d + 1) mX0_dizzyBy [.ref (ad o 0), .int x1, .int x2] s X Y :=
  Ev.start (by decide +kernel) (Nat.le_of_ble_eq_true rfl) (fun C hC => bX0_dizzyBy_0 ho hC k)
set_option maxRecDepth 100000 in
set_option maxHeartbeats 4000000 in
theorem bX0_refusalOf_0 {o : Nat} (ho : zcls o = 0) {x1 : Int32} {x2 : Int32} {C : ZC} {X : Option Value} {Y : ZS} {s : ZS} (hC : Zok ad D ia C (d + 1) cX0_refusalOf 3 RX0 (some .int)) (k : (∃ (r2 : Int32) (s1 : ZS), Ev l ad D ia d mX0_hasReader [.ref (ad o 0), .int x1] s (some (.int r2)) s1 ∧ ((r2 = 0 → (X = some (.int ((-1))) ∧ Y = s1)) ∧ (¬ r2 = 0 → (∃ (r6 : Int32) (s5 : ZS), Ev l ad D ia d mX0_hasBook [.ref (ad o 0), .int x2] s1 (some (.int r6)) s5 ∧ ((¬ r6 = 0 → (∃ (r10 : Int32) (s9 : ZS), Ev l ad D ia d mX0_hasHad [.ref (ad o 0), .int x1, .int x2] s5 (some (.int r10)) s9 ∧ ((r10 = 0 → (∃ (r14 : Int32) (s13 : ZS), Ev l ad D ia d mX0_minutesFor [.ref (ad o 0), .int x1, .int x2] s9 (some (.int r14)) s13 ∧ (((((s9 o).1 10) + r14) ≤ 9999 → (X = some (.int 0) ∧ Y = s13)) ∧ (¬ (((s9 o).1 10) + r14) ≤ 9999 → (X = some (.int ((-3))) ∧ Y = s13))))) ∧ (¬ r10 = 0 → (X = some (.int ((-2))) ∧ Y = s9))))) ∧ (r6 = 0 → (X = some (.int ((-1))) ∧ Y = s5)))))))) : Z l ad D ia C X Y 0 [(0, .ref (ad o 0)), (1, .int x1), (2, .int x2)] [] s := by
  refine Z_aload_n hC dX0_refusalOf_0 rfl rfl ?_
  refine Z_iload_n hC dX0_refusalOf_1 rfl rfl ?_
  obtain ⟨r2, s1, h3, k⟩ := k
  refine Z_callV (As := [.int x1]) (rest := []) hC h3 cvX0_82 ⟨0, ho, zs_0, _, rfl, rfl⟩ rfl rfl (Nat.le_of_ble_eq_true rfl) dX0_refusalOf_2 ?_
  refine Z_if_eq (tgt := 16) hC dX0_refusalOf_5 (by decide) (fun c4 => ?_) (fun c4 => ?_)
  · have k := k.1 c4
    refine Z_iconst (v := (-1)) hC dX0_refusalOf_16 rfl ?_
    exact Z_iret hC dX0_refusalOf_17 k.1 k.2
  · have k := k.2 c4
    refine Z_aload_n hC dX0_refusalOf_8 rfl rfl ?_
    refine Z_iload_n hC dX0_refusalOf_9 rfl rfl ?_
    obtain ⟨r6, s5, h7, k⟩ := k
    refine Z_callV (As := [.int x2]) (rest := []) hC h7 cvX0_61 ⟨0, ho, zs_0, _, rfl, rfl⟩ rfl rfl (Nat.le_of_ble_eq_true rfl) dX0_refusalOf_10 ?_
    refine Z_if_ne (tgt := 18) hC dX0_refusalOf_13 (by decide) (fun c8 => ?_) (fun c8 => ?_)
    · have k := k.1 c8
      refine Z_aload_n hC dX0_refusalOf_18 rfl rfl ?_
      refine Z_iload_n hC dX0_refusalOf_19 rfl rfl ?_
      refine Z_iload_n hC dX0_refusalOf_20 rfl rfl ?_
      obtain ⟨r10, s9, h11, k⟩ := k
      refine Z_callV (As := [.int x1, .int x2]) (rest := []) hC h11 cvX0_68 ⟨0, ho, zs_0, _, rfl, rfl⟩ rfl rfl (Nat.le_of_ble_eq_true rfl) dX0_refusalOf_21 ?_
      refine Z_if_eq (tgt := 30) hC dX0_refusalOf_24 (by decide) (fun c12 => ?_) (fun c12 => ?_)
      · have k := k.1 c12
        refine Z_aload_n hC dX0_refusalOf_30 rfl rfl ?_
        refine Z_get (o := o) (c := 0) (k := 10) (v := .int ((s9 o).1 10)) hC ho zs_0 lkX0_43 rfl dX0_refusalOf_31 ?_
        refine Z_aload_n hC dX0_refusalOf_34 rfl rfl ?_
        refine Z_iload_n hC dX0_refusalOf_35 rfl rfl ?_
        refine Z_iload_n hC dX0_refusalOf_36 rfl rfl ?_
        obtain ⟨r14, s13, h15, k⟩ := k
        refine Z_callV (As := [.int x1, .int x2]) (rest := [.int ((s9 o).1 10)]) hC h15 cvX0_85 ⟨0, ho, zs_0, _, rfl, rfl⟩ rfl rfl (Nat.le_of_ble_eq_true rfl) dX0_refusalOf_37 ?_
        refine Z_iadd hC dX0_refusalOf_40 ?_
        refine Z_sipush (v := 9999) hC dX0_refusalOf_41 rfl ?_
        refine Z_icmp_le (tgt := 52) hC dX0_refusalOf_44 (by decide) (fun c16 => ?_) (fun c16 => ?_)
        · have k := k.1 c16
          refine Z_iconst (v := 0) hC dX0_refusalOf_52 rfl ?_
          exact Z_iret hC dX0_refusalOf_53 k.1 k.2
        · have k := k.2 c16
          refine Z_bipush (v := (-3)) hC dX0_refusalOf_47 rfl ?_
          refine Z_goto (tgt := 53) hC dX0_refusalOf_49 (by decide) ?_
          exact Z_iret hC dX0_refusalOf_53 k.1 k.2
      · have k := k.2 c12
        refine Z_bipush (v := (-2)) hC dX0_refusalOf_27 rfl ?_
        exact Z_iret hC dX0_refusalOf_29 k.1 k.2
    · have k := k.2 c8
      refine Z_iconst (v := (-1)) hC dX0_refusalOf_16 rfl ?_
      exact Z_iret hC dX0_refusalOf_17 k.1 k.2
theorem eX0_refusalOf {o : Nat} (ho : zcls o = 0) {x1 : Int32} {x2 : Int32} {X : Option Value} {Y : ZS} {s : ZS} (k : (∃ (r2 : Int32) (s1 : ZS), Ev l ad D ia d mX0_hasReader [.ref (ad o 0), .int x1] s (some (.int r2)) s1 ∧ ((r2 = 0 → (X = some (.int ((-1))) ∧ Y = s1)) ∧ (¬ r2 = 0 → (∃ (r6 : Int32) (s5 : ZS), Ev l ad D ia d mX0_hasBook [.ref (ad o 0), .int x2] s1 (some (.int r6)) s5 ∧ ((¬ r6 = 0 → (∃ (r10 : Int32) (s9 : ZS), Ev l ad D ia d mX0_hasHad [.ref (ad o 0), .int x1, .int x2] s5 (some (.int r10)) s9 ∧ ((r10 = 0 → (∃ (r14 : Int32) (s13 : ZS), Ev l ad D ia d mX0_minutesFor [.ref (ad o 0), .int x1, .int x2] s9 (some (.int r14)) s13 ∧ (((((s9 o).1 10) + r14) ≤ 9999 → (X = some (.int 0) ∧ Y = s13)) ∧ (¬ (((s9 o).1 10) + r14) ≤ 9999 → (X = some (.int ((-3))) ∧ Y = s13))))) ∧ (¬ r10 = 0 → (X = some (.int ((-2))) ∧ Y = s9))))) ∧ (r6 = 0 → (X = some (.int ((-1))) ∧ Y = s5)))))))) : Ev l ad D ia (d + 1) mX0_refusalOf [.ref (ad o 0), .int x1, .int x2] s X Y :=
  Ev.start (by decide +kernel) (Nat.le_of_ble_eq_true rfl) (fun C hC => bX0_refusalOf_0 ho hC k)
set_option maxRecDepth 100000 in
set_option maxHeartbeats 4000000 in
theorem bX0_bring_0 {o : Nat} (ho : zcls o = 0) {x1 : Int32} {x2 : Int32} {C : ZC} {X : Option Value} {Y : ZS} {s : ZS} (hC : Zok ad D ia C (d + 1) cX0_bring 4 RX0 (some .int)) (k : (∃ (r2 : Int32) (s1 : ZS), Ev l ad D ia d mX0_minutesFor [.ref (ad o 0), .int x1, .int x2] s (some (.int r2)) s1 ∧ (∀ s4 : ZS, s4 = stI s1 o 10 (((s1 o).1 10) + r2) → (vp_in x2 8 ∧ (∀ s6 : ZS, s6 = stI s4 o 9 ((s4 o).2.2 1 x2.toNatClampNeg) → (vp_in x1 4 ∧ (vp_in x1 4 ∧ (∀ s9 : ZS, s9 = stA s6 o 8 x1.toNatClampNeg (((s6 o).2.2 8 x1.toNatClampNeg) ||| (1 <<< (x2 &&& 31))) → (∀ s10 : ZS, s10 = stI s9 o 12 (((s9 o).1 12) + 1) → (X = some (.int r2) ∧ Y = s10)))))))))) : Z l ad D ia C X Y 0 [(0, .ref (ad o 0)), (1, .int x1), (2, .int x2)] [] s := by
  refine Z_aload_n hC dX0_bring_0 rfl rfl ?_
  refine Z_iload_n hC dX0_bring_1 rfl rfl ?_
  refine Z_iload_n hC dX0_bring_2 rfl rfl ?_
  obtain ⟨r2, s1, h3, k⟩ := k
  refine Z_callV (As := [.int x1, .int x2]) (rest := []) hC h3 cvX0_85 ⟨0, ho, zs_0, _, rfl, rfl⟩ rfl rfl (Nat.le_of_ble_eq_true rfl) dX0_bring_3 ?_
  refine Z_istore_n (V2 := [(3, .int r2), (0, .ref (ad o 0)), (1, .int x1), (2, .int x2)]) hC dX0_bring_6 rfl (by decide) rfl ?_
  refine Z_aload_n hC dX0_bring_7 rfl rfl ?_
  refine Z_dup hC dX0_bring_8 rfl ?_
  refine Z_get (o := o) (c := 0) (k := 10) (v := .int ((s1 o).1 10)) hC ho zs_0 lkX0_43 rfl dX0_bring_9 ?_
  refine Z_iload_n hC dX0_bring_12 rfl rfl ?_
  refine Z_iadd hC dX0_bring_13 ?_
  refine Z_putI (o := o) (k := 10) hC ho zs_0 pkX0_43 rfl rfl (hsX0_10 _ _ _) dX0_bring_14 (fun s4 es4 => ?_)
  have k := k s4 es4
  refine Z_aload_n hC dX0_bring_17 rfl rfl ?_
  refine Z_aload_n hC dX0_bring_18 rfl rfl ?_
  refine Z_get (o := o) (c := 0) (k := 1) (v := .ref (ad o 2)) hC ho zs_0 lkX0_9 rfl dX0_bring_19 ?_
  refine Z_iload_n hC dX0_bring_22 rfl rfl ?_
  obtain ⟨h5, k⟩ := k
  refine Z_iald (o := o) (k := 1) hC (zis_of ho rfl) h5 dX0_bring_23 ?_
  refine Z_putI (o := o) (k := 9) hC ho zs_0 pkX0_40 rfl rfl (hsX0_9 _ _ _) dX0_bring_24 (fun s6 es6 => ?_)
  have k := k s6 es6
  refine Z_aload_n hC dX0_bring_27 rfl rfl ?_
  refine Z_get (o := o) (c := 0) (k := 8) (v := .ref (ad o 9)) hC ho zs_0 lkX0_30 rfl dX0_bring_28 ?_
  refine Z_iload_n hC dX0_bring_31 rfl rfl ?_
  refine Z_dup2 hC dX0_bring_32 rfl rfl ?_
  obtain ⟨h7, k⟩ := k
  refine Z_iald (o := o) (k := 8) hC (zis_of ho rfl) h7 dX0_bring_33 ?_
  refine Z_iconst (v := 1) hC dX0_bring_34 rfl ?_
  refine Z_iload_n hC dX0_bring_35 rfl rfl ?_
  refine Z_ishl hC dX0_bring_36 ?_
  refine Z_ior hC dX0_bring_37 ?_
  obtain ⟨h8, k⟩ := k
  refine Z_iast2 (o := o) (k := 8) hC (zis_of ho rfl) h8 dX0_bring_38 (fun s9 es9 => ?_)
  have k := k s9 es9
  refine Z_aload_n hC dX0_bring_39 rfl rfl ?_
  refine Z_dup hC dX0_bring_40 rfl ?_
  refine Z_get (o := o) (c := 0) (k := 12) (v := .int ((s9 o).1 12)) hC ho zs_0 lkX0_49 rfl dX0_bring_41 ?_
  refine Z_iconst (v := 1) hC dX0_bring_44 rfl ?_
  refine Z_iadd hC dX0_bring_45 ?_
  refine Z_putI (o := o) (k := 12) hC ho zs_0 pkX0_49 rfl rfl (hsX0_12 _ _ _) dX0_bring_46 (fun s10 es10 => ?_)
  have k := k s10 es10
  refine Z_iload_n hC dX0_bring_49 rfl rfl ?_
  exact Z_iret hC dX0_bring_50 k.1 k.2
theorem eX0_bring {o : Nat} (ho : zcls o = 0) {x1 : Int32} {x2 : Int32} {X : Option Value} {Y : ZS} {s : ZS} (k : (∃ (r2 : Int32) (s1 : ZS), Ev l ad D ia d mX0_minutesFor [.ref (ad o 0), .int x1, .int x2] s (some (.int r2)) s1 ∧ (∀ s4 : ZS, s4 = stI s1 o 10 (((s1 o).1 10) + r2) → (vp_in x2 8 ∧ (∀ s6 : ZS, s6 = stI s4 o 9 ((s4 o).2.2 1 x2.toNatClampNeg) → (vp_in x1 4 ∧ (vp_in x1 4 ∧ (∀ s9 : ZS, s9 = stA s6 o 8 x1.toNatClampNeg (((s6 o).2.2 8 x1.toNatClampNeg) ||| (1 <<< (x2 &&& 31))) → (∀ s10 : ZS, s10 = stI s9 o 12 (((s9 o).1 12) + 1) → (X = some (.int r2) ∧ Y = s10)))))))))) : Ev l ad D ia (d + 1) mX0_bring [.ref (ad o 0), .int x1, .int x2] s X Y :=
  Ev.start (by decide +kernel) (Nat.le_of_ble_eq_true rfl) (fun C hC => bX0_bring_0 ho hC k)
set_option maxRecDepth 100000 in
set_option maxHeartbeats 4000000 in
theorem bX0_spendDay_0 {o : Nat} (ho : zcls o = 0) {x1 : Int32} {C : ZC} {X : Option Value} {Y : ZS} {s : ZS} (hC : Zok ad D ia C (d + 1) cX0_spendDay 6 RX0 (some .int)) (k : Z l ad D ia C X Y 4 [(0, .ref (ad o 0)), (1, .int x1), (2, .int 0), (3, .int 0)] [] s) : Z l ad D ia C X Y 0 [(0, .ref (ad o 0)), (1, .int x1)] [] s := by
  refine Z_iconst (v := 0) hC dX0_spendDay_0 rfl ?_
  refine Z_istore_n (V2 := [(2, .int 0), (0, .ref (ad o 0)), (1, .int x1)]) hC dX0_spendDay_1 rfl (by decide) rfl ?_
  refine Z_iconst (v := 0) hC dX0_spendDay_2 rfl ?_
  refine Z_istore_n (V2 := [(3, .int 0), (2, .int 0), (0, .ref (ad o 0)), (1, .int x1)]) hC dX0_spendDay_3 rfl (by decide) rfl ?_
  exact Z_pick [2, 3, 1, 0] rfl k
theorem eX0_spendDay {o : Nat} (ho : zcls o = 0) {x1 : Int32} {X : Option Value} {Y : ZS} {s : ZS} (k : ∀ C : ZC, Zok ad D ia C (d + 1) cX0_spendDay 6 RX0 (some .int) → Z l ad D ia C X Y 4 [(0, .ref (ad o 0)), (1, .int x1), (2, .int 0), (3, .int 0)] [] s) : Ev l ad D ia (d + 1) mX0_spendDay [.ref (ad o 0), .int x1] s X Y :=
  Ev.start (by decide +kernel) (Nat.le_of_ble_eq_true rfl) (fun C hC => bX0_spendDay_0 ho hC (k C hC))
set_option maxRecDepth 100000 in
set_option maxHeartbeats 4000000 in
theorem bX0_spendDay_4 {o : Nat} (ho : zcls o = 0) {x1 : Int32} {x2 : Int32} {x3 : Int32} {C : ZC} {X : Option Value} {Y : ZS} {s : ZS} (hC : Zok ad D ia C (d + 1) cX0_spendDay 6 RX0 (some .int)) (k : ((8 < x3 → (X = some (.int ((-4))) ∧ Y = s)) ∧ (¬ 8 < x3 → (∃ (r3 : Int32) (s2 : ZS), Ev l ad D ia d mX0_isDone [.ref (ad o 0), .int x1] s (some (.int r3)) s2 ∧ ((¬ r3 = 0 → (X = some (.int ((-4))) ∧ Y = s2)) ∧ (r3 = 0 → (vp_in x1 4 ∧ (∃ (r8 : Int32) (s7 : ZS), Ev l ad D ia d mX0_dizzyBy [.ref (ad o 0), .int x1, .int ((s2 o).2.2 6 x1.toNatClampNeg)] s2 (some (.int r8)) s7 ∧ (∃ (r11 : Int32) (s10 : ZS), Ev l ad D ia d mX0_hasHad [.ref (ad o 0), .int x1, .int ((s2 o).2.2 6 x1.toNatClampNeg)] s7 (some (.int r11)) s10 ∧ ((r11 = 0 → (vp_in x1 4 ∧ (((x2 + r8) ≤ ((s10 o).2.2 7 x1.toNatClampNeg) → (∃ (r17 : Int32) (s16 : ZS), Ev l ad D ia d mX0_bring [.ref (ad o 0), .int x1, .int ((s2 o).2.2 6 x1.toNatClampNeg)] s10 (some (.int r17)) s16 ∧ (vp_in ((s2 o).2.2 6 x1.toNatClampNeg) 8 ∧ (vp_in x1 4 ∧ (∀ s21 : ZS, s21 = stA s16 o 6 x1.toNatClampNeg ((s16 o).2.2 3 ((s2 o).2.2 6 x1.toNatClampNeg).toNatClampNeg) → Z l ad D ia C X Y 4 [(0, .ref (ad o 0)), (1, .int x1), (2, .int (x2 + r8)), (3, .int (x3 + 1))] [] s21))))) ∧ (¬ (x2 + r8) ≤ ((s10 o).2.2 7 x1.toNatClampNeg) → (∀ s22 : ZS, s22 = stI s10 o 13 (((s10 o).1 13) + 1) → (X = some (.int ((s2 o).2.2 6 x1.toNatClampNeg)) ∧ Y = s22)))))) ∧ (¬ r11 = 0 → (vp_in x1 4 ∧ (∀ s24 : ZS, s24 = stA s10 o 6 x1.toNatClampNeg ((-4)) → Z l ad D ia C X Y 4 [(0, .ref (ad o 0)), (1, .int x1), (2, .int x2), (3, .int (x3 + 1))] [] s24))))))))))))) : Z l ad D ia C X Y 4 [(0, .ref (ad o 0)), (1, .int x1), (2, .int x2), (3, .int x3)] [] s := by
  refine Z_iload_n hC dX0_spendDay_4 rfl rfl ?_
  refine Z_bipush (v := 8) hC dX0_spendDay_5 rfl ?_
  refine Z_icmp_gt (tgt := 114) hC dX0_spendDay_7 (by decide) (fun c1 => ?_) (fun c1 => ?_)
  · have k := k.1 c1
    refine Z_bipush (v := (-4)) hC dX0_spendDay_114 rfl ?_
    exact Z_iret hC dX0_spendDay_116 k.1 k.2
  · have k := k.2 c1
    refine Z_aload_n hC dX0_spendDay_10 rfl rfl ?_
    refine Z_iload_n hC dX0_spendDay_11 rfl rfl ?_
    obtain ⟨r3, s2, h4, k⟩ := k
    refine Z_callV (As := [.int x1]) (rest := []) hC h4 cvX0_65 ⟨0, ho, zs_0, _, rfl, rfl⟩ rfl rfl (Nat.le_of_ble_eq_true rfl) dX0_spendDay_12 ?_
    refine Z_if_ne (tgt := 114) hC dX0_spendDay_15 (by decide) (fun c5 => ?_) (fun c5 => ?_)
    · have k := k.1 c5
      refine Z_bipush (v := (-4)) hC dX0_spendDay_114 rfl ?_
      exact Z_iret hC dX0_spendDay_116 k.1 k.2
    · have k := k.2 c5
      refine Z_aload_n hC dX0_spendDay_18 rfl rfl ?_
      refine Z_get (o := o) (c := 0) (k := 6) (v := .ref (ad o 7)) hC ho zs_0 lkX0_24 rfl dX0_spendDay_19 ?_
      refine Z_iload_n hC dX0_spendDay_22 rfl rfl ?_
      obtain ⟨h6, k⟩ := k
      refine Z_iald (o := o) (k := 6) hC (zis_of ho rfl) h6 dX0_spendDay_23 ?_
      refine Z_istore (V2 := [(4, .int ((s2 o).2.2 6 x1.toNatClampNeg)), (0, .ref (ad o 0)), (1, .int x1), (2, .int x2), (3, .int x3)]) hC dX0_spendDay_24 (by decide) rfl ?_
      refine Z_aload_n hC dX0_spendDay_26 rfl rfl ?_
      refine Z_iload_n hC dX0_spendDay_27 rfl rfl ?_
      refine Z_iload hC dX0_spendDay_28 rfl ?_
      obtain ⟨r8, s7, h9, k⟩ := k
      refine Z_callV (As := [.int x1, .int ((s2 o).2.2 6 x1.toNatClampNeg)]) (rest := []) hC h9 cvX0_88 ⟨0, ho, zs_0, _, rfl, rfl⟩ rfl rfl (Nat.le_of_ble_eq_true rfl) dX0_spendDay_30 ?_
      refine Z_istore (V2 := [(5, .int r8), (4, .int ((s2 o).2.2 6 x1.toNatClampNeg)), (0, .ref (ad o 0)), (1, .int x1), (2, .int x2), (3, .int x3)]) hC dX0_spendDay_33 (by decide) rfl ?_
      refine Z_aload_n hC dX0_spendDay_35 rfl rfl ?_
      refine Z_iload_n hC dX0_spendDay_36 rfl rfl ?_
      refine Z_iload hC dX0_spendDay_37 rfl ?_
      obtain ⟨r11, s10, h12, k⟩ := k
      refine Z_callV (As := [.int x1, .int ((s2 o).2.2 6 x1.toNatClampNeg)]) (rest := []) hC h12 cvX0_68 ⟨0, ho, zs_0, _, rfl, rfl⟩ rfl rfl (Nat.le_of_ble_eq_true rfl) dX0_spendDay_39 ?_
      refine Z_if_eq (tgt := 56) hC dX0_spendDay_42 (by decide) (fun c13 => ?_) (fun c13 => ?_)
      · have k := k.1 c13
        refine Z_iload_n hC dX0_spendDay_56 rfl rfl ?_
        refine Z_iload hC dX0_spendDay_57 rfl ?_
        refine Z_iadd hC dX0_spendDay_59 ?_
        refine Z_aload_n hC dX0_spendDay_60 rfl rfl ?_
        refine Z_get (o := o) (c := 0) (k := 7) (v := .ref (ad o 8)) hC ho zs_0 lkX0_27 rfl dX0_spendDay_61 ?_
        refine Z_iload_n hC dX0_spendDay_64 rfl rfl ?_
        obtain ⟨h14, k⟩ := k
        refine Z_iald (o := o) (k := 7) hC (zis_of ho rfl) h14 dX0_spendDay_65 ?_
        refine Z_icmp_le (tgt := 82) hC dX0_spendDay_66 (by decide) (fun c15 => ?_) (fun c15 => ?_)
        · have k := k.1 c15
          refine Z_aload_n hC dX0_spendDay_82 rfl rfl ?_
          refine Z_iload_n hC dX0_spendDay_83 rfl rfl ?_
          refine Z_iload hC dX0_spendDay_84 rfl ?_
          obtain ⟨r17, s16, h18, k⟩ := k
          refine Z_callV (As := [.int x1, .int ((s2 o).2.2 6 x1.toNatClampNeg)]) (rest := []) hC h18 cvX0_91 ⟨0, ho, zs_0, _, rfl, rfl⟩ rfl rfl (Nat.le_of_ble_eq_true rfl) dX0_spendDay_86 ?_
          refine Z_pop hC dX0_spendDay_89 rfl ?_
          refine Z_iload_n hC dX0_spendDay_90 rfl rfl ?_
          refine Z_iload hC dX0_spendDay_91 rfl ?_
          refine Z_iadd hC dX0_spendDay_93 ?_
          refine Z_istore_n (V2 := [(2, .int (x2 + r8)), (5, .int r8), (4, .int ((s2 o).2.2 6 x1.toNatClampNeg)), (0, .ref (ad o 0)), (1, .int x1), (3, .int x3)]) hC dX0_spendDay_94 rfl (by decide) rfl ?_
          refine Z_aload_n hC dX0_spendDay_95 rfl rfl ?_
          refine Z_get (o := o) (c := 0) (k := 6) (v := .ref (ad o 7)) hC ho zs_0 lkX0_24 rfl dX0_spendDay_96 ?_
          refine Z_iload_n hC dX0_spendDay_99 rfl rfl ?_
          refine Z_aload_n hC dX0_spendDay_100 rfl rfl ?_
          refine Z_get (o := o) (c := 0) (k := 3) (v := .ref (ad o 4)) hC ho zs_0 lkX0_18 rfl dX0_spendDay_101 ?_
          refine Z_iload hC dX0_spendDay_104 rfl ?_
          obtain ⟨h19, k⟩ := k
          refine Z_iald (o := o) (k := 3) hC (zis_of ho rfl) h19 dX0_spendDay_106 ?_
          obtain ⟨h20, k⟩ := k
          refine Z_iast2 (o := o) (k := 6) hC (zis_of ho rfl) h20 dX0_spendDay_107 (fun s21 es21 => ?_)
          have k := k s21 es21
          refine Z_iinc (v := x3 + 1) (V2 := [(3, .int (x3 + 1)), (2, .int (x2 + r8)), (5, .int r8), (4, .int ((s2 o).2.2 6 x1.toNatClampNeg)), (0, .ref (ad o 0)), (1, .int x1)]) hC dX0_spendDay_108 rfl rfl (by decide) rfl ?_
          refine Z_goto (tgt := 4) hC dX0_spendDay_111 (by decide) ?_
          exact Z_pick [4, 5, 1, 0] rfl k
        · have k := k.2 c15
          refine Z_aload_n hC dX0_spendDay_69 rfl rfl ?_
          refine Z_dup hC dX0_spendDay_70 rfl ?_
          refine Z_get (o := o) (c := 0) (k := 13) (v := .int ((s10 o).1 13)) hC ho zs_0 lkX0_52 rfl dX0_spendDay_71 ?_
          refine Z_iconst (v := 1) hC dX0_spendDay_74 rfl ?_
          refine Z_iadd hC dX0_spendDay_75 ?_
          refine Z_putI (o := o) (k := 13) hC ho zs_0 pkX0_52 rfl rfl (hsX0_13 _ _ _) dX0_spendDay_76 (fun s22 es22 => ?_)
          have k := k s22 es22
          refine Z_iload hC dX0_spendDay_79 rfl ?_
          exact Z_iret hC dX0_spendDay_81 k.1 k.2
      · have k := k.2 c13
        refine Z_aload_n hC dX0_spendDay_45 rfl rfl ?_
        refine Z_get (o := o) (c := 0) (k := 6) (v := .ref (ad o 7)) hC ho zs_0 lkX0_24 rfl dX0_spendDay_46 ?_
        refine Z_iload_n hC dX0_spendDay_49 rfl rfl ?_
        refine Z_bipush (v := (-4)) hC dX0_spendDay_50 rfl ?_
        obtain ⟨h23, k⟩ := k
        refine Z_iast2 (o := o) (k := 6) hC (zis_of ho rfl) h23 dX0_spendDay_52 (fun s24 es24 => ?_)
        have k := k s24 es24
        refine Z_goto (tgt := 108) hC dX0_spendDay_53 (by decide) ?_
        refine Z_iinc (v := x3 + 1) (V2 := [(3, .int (x3 + 1)), (5, .int r8), (4, .int ((s2 o).2.2 6 x1.toNatClampNeg)), (0, .ref (ad o 0)), (1, .int x1), (2, .int x2)]) hC dX0_spendDay_108 rfl rfl (by decide) rfl ?_
        refine Z_goto (tgt := 4) hC dX0_spendDay_111 (by decide) ?_
        exact Z_pick [3, 4, 5, 0] rfl k
set_option maxRecDepth 100000 in
set_option maxHeartbeats 4000000 in
theorem bX0_passDay_0 {o : Nat} (ho : zcls o = 0) {C : ZC} {X : Option Value} {Y : ZS} {s : ZS} (hC : Zok ad D ia C (d + 1) cX0_passDay 2 RX0 none) (k : Z l ad D ia C X Y 2 [(0, .ref (ad o 0)), (1, .int 0)] [] s) : Z l ad D ia C X Y 0 [(0, .ref (ad o 0))] [] s := by
  refine Z_iconst (v := 0) hC dX0_passDay_0 rfl ?_
  refine Z_istore_n (V2 := [(1, .int 0), (0, .ref (ad o 0))]) hC dX0_passDay_1 rfl (by decide) rfl ?_
  exact Z_pick [1, 0] rfl k
theorem eX0_passDay {o : Nat} (ho : zcls o = 0) {X : Option Value} {Y : ZS} {s : ZS} (k : ∀ C : ZC, Zok ad D ia C (d + 1) cX0_passDay 2 RX0 none → Z l ad D ia C X Y 2 [(0, .ref (ad o 0)), (1, .int 0)] [] s) : Ev l ad D ia (d + 1) mX0_passDay [.ref (ad o 0)] s X Y :=
  Ev.start (by decide +kernel) (Nat.le_of_ble_eq_true rfl) (fun C hC => bX0_passDay_0 ho hC (k C hC))
set_option maxRecDepth 100000 in
set_option maxHeartbeats 4000000 in
theorem bX0_passDay_2 {o : Nat} (ho : zcls o = 0) {x1 : Int32} {C : ZC} {X : Option Value} {Y : ZS} {s : ZS} (hC : Zok ad D ia C (d + 1) cX0_passDay 2 RX0 none) (k : ((((s o).1 4) ≤ x1 → (∀ s2 : ZS, s2 = stI s o 11 (((s o).1 11) + 1) → (X = none ∧ Y = s2))) ∧ (¬ ((s o).1 4) ≤ x1 → (∃ (r4 : Int32) (s3 : ZS), Ev l ad D ia d mX0_spendDay [.ref (ad o 0), .int x1] s (some (.int r4)) s3 ∧ Z l ad D ia C X Y 2 [(0, .ref (ad o 0)), (1, .int (x1 + 1))] [] s3)))) : Z l ad D ia C X Y 2 [(0, .ref (ad o 0)), (1, .int x1)] [] s := by
  refine Z_iload_n hC dX0_passDay_2 rfl rfl ?_
  refine Z_aload_n hC dX0_passDay_3 rfl rfl ?_
  refine Z_get (o := o) (c := 0) (k := 4) (v := .int ((s o).1 4)) hC ho zs_0 lkX0_37 rfl dX0_passDay_4 ?_
  refine Z_icmp_ge (tgt := 22) hC dX0_passDay_7 (by decide) (fun c1 => ?_) (fun c1 => ?_)
  · have k := k.1 c1
    refine Z_aload_n hC dX0_passDay_22 rfl rfl ?_
    refine Z_dup hC dX0_passDay_23 rfl ?_
    refine Z_get (o := o) (c := 0) (k := 11) (v := .int ((s o).1 11)) hC ho zs_0 lkX0_46 rfl dX0_passDay_24 ?_
    refine Z_iconst (v := 1) hC dX0_passDay_27 rfl ?_
    refine Z_iadd hC dX0_passDay_28 ?_
    refine Z_putI (o := o) (k := 11) hC ho zs_0 pkX0_46 rfl rfl (hsX0_11 _ _ _) dX0_passDay_29 (fun s2 es2 => ?_)
    have k := k s2 es2
    exact Z_vret hC dX0_passDay_32 k.1 k.2
  · have k := k.2 c1
    refine Z_aload_n hC dX0_passDay_10 rfl rfl ?_
    refine Z_iload_n hC dX0_passDay_11 rfl rfl ?_
    obtain ⟨r4, s3, h5, k⟩ := k
    refine Z_callV (As := [.int x1]) (rest := []) hC h5 cvX0_94 ⟨0, ho, zs_0, _, rfl, rfl⟩ rfl rfl (Nat.le_of_ble_eq_true rfl) dX0_passDay_12 ?_
    refine Z_pop hC dX0_passDay_15 rfl ?_
    refine Z_iinc (v := x1 + 1) (V2 := [(1, .int (x1 + 1)), (0, .ref (ad o 0))]) hC dX0_passDay_16 rfl rfl (by decide) rfl ?_
    refine Z_goto (tgt := 2) hC dX0_passDay_19 (by decide) ?_
    exact Z_pick [1, 0] rfl k
set_option maxRecDepth 100000 in
set_option maxHeartbeats 4000000 in
theorem bX0_passDays_0 {o : Nat} (ho : zcls o = 0) {x1 : Int32} {C : ZC} {X : Option Value} {Y : ZS} {s : ZS} (hC : Zok ad D ia C (d + 1) cX0_passDays 3 RX0 none) (k : Z l ad D ia C X Y 2 [(0, .ref (ad o 0)), (1, .int x1), (2, .int 0)] [] s) : Z l ad D ia C X Y 0 [(0, .ref (ad o 0)), (1, .int x1)] [] s := by
  refine Z_iconst (v := 0) hC dX0_passDays_0 rfl ?_
  refine Z_istore_n (V2 := [(2, .int 0), (0, .ref (ad o 0)), (1, .int x1)]) hC dX0_passDays_1 rfl (by decide) rfl ?_
  exact Z_pick [1, 2, 0] rfl k
theorem eX0_passDays {o : Nat} (ho : zcls o = 0) {x1 : Int32} {X : Option Value} {Y : ZS} {s : ZS} (k : ∀ C : ZC, Zok ad D ia C (d + 1) cX0_passDays 3 RX0 none → Z l ad D ia C X Y 2 [(0, .ref (ad o 0)), (1, .int x1), (2, .int 0)] [] s) : Ev l ad D ia (d + 1) mX0_passDays [.ref (ad o 0), .int x1] s X Y :=
  Ev.start (by decide +kernel) (Nat.le_of_ble_eq_true rfl) (fun C hC => bX0_passDays_0 ho hC (k C hC))
set_option maxRecDepth 100000 in
set_option maxHeartbeats 4000000 in
theorem bX0_passDays_2 {o : Nat} (ho : zcls o = 0) {x1 : Int32} {x2 : Int32} {C : ZC} {X : Option Value} {Y : ZS} {s : ZS} (hC : Zok ad D ia C (d + 1) cX0_passDays 3 RX0 none) (k : ((x1 ≤ x2 → (X = none ∧ Y = s)) ∧ (¬ x1 ≤ x2 → (∃ s2 : ZS, Ev l ad D ia d mX0_passDay [.ref (ad o 0)] s none s2 ∧ Z l ad D ia C X Y 2 [(0, .ref (ad o 0)), (1, .int x1), (2, .int (x2 + 1))] [] s2)))) : Z l ad D ia C X Y 2 [(0, .ref (ad o 0)), (1, .int x1), (2, .int x2)] [] s := by
  refine Z_iload_n hC dX0_passDays_2 rfl rfl ?_
  refine Z_iload_n hC dX0_passDays_3 rfl rfl ?_
  refine Z_icmp_ge (tgt := 17) hC dX0_passDays_4 (by decide) (fun c1 => ?_) (fun c1 => ?_)
  · have k := k.1 c1
    exact Z_vret hC dX0_passDays_17 k.1 k.2
  · have k := k.2 c1
    refine Z_aload_n hC dX0_passDays_7 rfl rfl ?_
    obtain ⟨s2, h3, k⟩ := k
    refine Z_callV (As := []) (rest := []) hC h3 cvX0_97 ⟨0, ho, zs_0, _, rfl, rfl⟩ rfl rfl (Nat.le_of_ble_eq_true rfl) dX0_passDays_8 ?_
    refine Z_iinc (v := x2 + 1) (V2 := [(2, .int (x2 + 1)), (0, .ref (ad o 0)), (1, .int x1)]) hC dX0_passDays_11 rfl rfl (by decide) rfl ?_
    refine Z_goto (tgt := 2) hC dX0_passDays_14 (by decide) ?_
    exact Z_pick [1, 2, 0] rfl k
set_option maxRecDepth 100000 in
set_option maxHeartbeats 4000000 in
theorem bX0_passDaysTillStill_0 {o : Nat} (ho : zcls o = 0) {x1 : Int32} {C : ZC} {X : Option Value} {Y : ZS} {s : ZS} (hC : Zok ad D ia C (d + 1) cX0_passDaysTillStill 4 RX0 none) (k : Z l ad D ia C X Y 4 [(0, .ref (ad o 0)), (1, .int x1), (2, .int ((-1))), (3, .int 0)] [] s) : Z l ad D ia C X Y 0 [(0, .ref (ad o 0)), (1, .int x1)] [] s := by
  refine Z_iconst (v := (-1)) hC dX0_passDaysTillStill_0 rfl ?_
  refine Z_istore_n (V2 := [(2, .int ((-1))), (0, .ref (ad o 0)), (1, .int x1)]) hC dX0_passDaysTillStill_1 rfl (by decide) rfl ?_
  refine Z_iconst (v := 0) hC dX0_passDaysTillStill_2 rfl ?_
  refine Z_istore_n (V2 := [(3, .int 0), (2, .int ((-1))), (0, .ref (ad o 0)), (1, .int x1)]) hC dX0_passDaysTillStill_3 rfl (by decide) rfl ?_
  exact Z_pick [2, 3, 1, 0] rfl k
theorem eX0_passDaysTillStill {o : Nat} (ho : zcls o = 0) {x1 : Int32} {X : Option Value} {Y : ZS} {s : ZS} (k : ∀ C : ZC, Zok ad D ia C (d + 1) cX0_passDaysTillStill 4 RX0 none → Z l ad D ia C X Y 4 [(0, .ref (ad o 0)), (1, .int x1), (2, .int ((-1))), (3, .int 0)] [] s) : Ev l ad D ia (d + 1) mX0_passDaysTillStill [.ref (ad o 0), .int x1] s X Y :=
  Ev.start (by decide +kernel) (Nat.le_of_ble_eq_true rfl) (fun C hC => bX0_passDaysTillStill_0 ho hC (k C hC))
set_option maxRecDepth 100000 in
set_option maxHeartbeats 4000000 in
theorem bX0_passDaysTillStill_4 {o : Nat} (ho : zcls o = 0) {x1 : Int32} {x2 : Int32} {x3 : Int32} {C : ZC} {X : Option Value} {Y : ZS} {s : ZS} (hC : Zok ad D ia C (d + 1) cX0_passDaysTillStill 4 RX0 none) (k : ((x1 ≤ x3 → (X = none ∧ Y = s)) ∧ (¬ x1 ≤ x3 → ((((s o).1 12) ≤ x2 → (X = none ∧ Y = s)) ∧ (¬ ((s o).1 12) ≤ x2 → (∃ s3 : ZS, Ev l ad D ia d mX0_passDay [.ref (ad o 0)] s none s3 ∧ Z l ad D ia C X Y 4 [(0, .ref (ad o 0)), (1, .int x1), (2, .int ((s o).1 12)), (3, .int (x3 + 1))] [] s3)))))) : Z l ad D ia C X Y 4 [(0, .ref (ad o 0)), (1, .int x1), (2, .int x2), (3, .int x3)] [] s := by
  refine Z_iload_n hC dX0_passDaysTillStill_4 rfl rfl ?_
  refine Z_iload_n hC dX0_passDaysTillStill_5 rfl rfl ?_
  refine Z_icmp_ge (tgt := 32) hC dX0_passDaysTillStill_6 (by decide) (fun c1 => ?_) (fun c1 => ?_)
  · have k := k.1 c1
    exact Z_vret hC dX0_passDaysTillStill_32 k.1 k.2
  · have k := k.2 c1
    refine Z_aload_n hC dX0_passDaysTillStill_9 rfl rfl ?_
    refine Z_get (o := o) (c := 0) (k := 12) (v := .int ((s o).1 12)) hC ho zs_0 lkX0_49 rfl dX0_passDaysTillStill_10 ?_
    refine Z_iload_n hC dX0_passDaysTillStill_13 rfl rfl ?_
    refine Z_icmp_le (tgt := 32) hC dX0_passDaysTillStill_14 (by decide) (fun c2 => ?_) (fun c2 => ?_)
    · have k := k.1 c2
      exact Z_vret hC dX0_passDaysTillStill_32 k.1 k.2
    · have k := k.2 c2
      refine Z_aload_n hC dX0_passDaysTillStill_17 rfl rfl ?_
      refine Z_get (o := o) (c := 0) (k := 12) (v := .int ((s o).1 12)) hC ho zs_0 lkX0_49 rfl dX0_passDaysTillStill_18 ?_
      refine Z_istore_n (V2 := [(2, .int ((s o).1 12)), (0, .ref (ad o 0)), (1, .int x1), (3, .int x3)]) hC dX0_passDaysTillStill_21 rfl (by decide) rfl ?_
      refine Z_aload_n hC dX0_passDaysTillStill_22 rfl rfl ?_
      obtain ⟨s3, h4, k⟩ := k
      refine Z_callV (As := []) (rest := []) hC h4 cvX0_97 ⟨0, ho, zs_0, _, rfl, rfl⟩ rfl rfl (Nat.le_of_ble_eq_true rfl) dX0_passDaysTillStill_23 ?_
      refine Z_iinc (v := x3 + 1) (V2 := [(3, .int (x3 + 1)), (2, .int ((s o).1 12)), (0, .ref (ad o 0)), (1, .int x1)]) hC dX0_passDaysTillStill_26 rfl rfl (by decide) rfl ?_
      refine Z_goto (tgt := 4) hC dX0_passDaysTillStill_29 (by decide) ?_
      exact Z_pick [2, 3, 1, 0] rfl k
set_option maxRecDepth 100000 in
set_option maxHeartbeats 4000000 in
theorem bX0_passDaysOf_0 {o : Nat} (ho : zcls o = 0) {x1 : Int32} {x2 : Int32} {C : ZC} {X : Option Value} {Y : ZS} {s : ZS} (hC : Zok ad D ia C (d + 1) cX0_passDaysOf 5 RX0 none) (k : Z l ad D ia C X Y 5 [(0, .ref (ad o 0)), (1, .int x1), (2, .int x2), (3, .int ((-1))), (4, .int 0)] [] s) : Z l ad D ia C X Y 0 [(0, .ref (ad o 0)), (1, .int x1), (2, .int x2)] [] s := by
  refine Z_iconst (v := (-1)) hC dX0_passDaysOf_0 rfl ?_
  refine Z_istore_n (V2 := [(3, .int ((-1))), (0, .ref (ad o 0)), (1, .int x1), (2, .int x2)]) hC dX0_passDaysOf_1 rfl (by decide) rfl ?_
  refine Z_iconst (v := 0) hC dX0_passDaysOf_2 rfl ?_
  refine Z_istore (V2 := [(4, .int 0), (3, .int ((-1))), (0, .ref (ad o 0)), (1, .int x1), (2, .int x2)]) hC dX0_passDaysOf_3 (by decide) rfl ?_
  exact Z_pick [2, 3, 4, 1, 0] rfl k
theorem eX0_passDaysOf {o : Nat} (ho : zcls o = 0) {x1 : Int32} {x2 : Int32} {X : Option Value} {Y : ZS} {s : ZS} (k : ∀ C : ZC, Zok ad D ia C (d + 1) cX0_passDaysOf 5 RX0 none → Z l ad D ia C X Y 5 [(0, .ref (ad o 0)), (1, .int x1), (2, .int x2), (3, .int ((-1))), (4, .int 0)] [] s) : Ev l ad D ia (d + 1) mX0_passDaysOf [.ref (ad o 0), .int x1, .int x2] s X Y :=
  Ev.start (by decide +kernel) (Nat.le_of_ble_eq_true rfl) (fun C hC => bX0_passDaysOf_0 ho hC (k C hC))
set_option maxRecDepth 100000 in
set_option maxHeartbeats 4000000 in
theorem bX0_passDaysOf_5 {o : Nat} (ho : zcls o = 0) {x1 : Int32} {x2 : Int32} {x3 : Int32} {x4 : Int32} {C : ZC} {X : Option Value} {Y : ZS} {s : ZS} (hC : Zok ad D ia C (d + 1) cX0_passDaysOf 5 RX0 none) (k : ((x2 ≤ x4 → (X = none ∧ Y = s)) ∧ (¬ x2 ≤ x4 → ((((s o).1 12) ≤ x3 → (X = none ∧ Y = s)) ∧ (¬ ((s o).1 12) ≤ x3 → (∃ (r4 : Int32) (s3 : ZS), Ev l ad D ia d mX0_spendDay [.ref (ad o 0), .int x1] s (some (.int r4)) s3 ∧ Z l ad D ia C X Y 5 [(0, .ref (ad o 0)), (1, .int x1), (2, .int x2), (3, .int ((s o).1 12)), (4, .int (x4 + 1))] [] s3)))))) : Z l ad D ia C X Y 5 [(0, .ref (ad o 0)), (1, .int x1), (2, .int x2), (3, .int x3), (4, .int x4)] [] s := by
  refine Z_iload hC dX0_passDaysOf_5 rfl ?_
  refine Z_iload_n hC dX0_passDaysOf_7 rfl rfl ?_
  refine Z_icmp_ge (tgt := 36) hC dX0_passDaysOf_8 (by decide) (fun c1 => ?_) (fun c1 => ?_)
  · have k := k.1 c1
    exact Z_vret hC dX0_passDaysOf_36 k.1 k.2
  · have k := k.2 c1
    refine Z_aload_n hC dX0_passDaysOf_11 rfl rfl ?_
    refine Z_get (o := o) (c := 0) (k := 12) (v := .int ((s o).1 12)) hC ho zs_0 lkX0_49 rfl dX0_passDaysOf_12 ?_
    refine Z_iload_n hC dX0_passDaysOf_15 rfl rfl ?_
    refine Z_icmp_le (tgt := 36) hC dX0_passDaysOf_16 (by decide) (fun c2 => ?_) (fun c2 => ?_)
    · have k := k.1 c2
      exact Z_vret hC dX0_passDaysOf_36 k.1 k.2
    · have k := k.2 c2
      refine Z_aload_n hC dX0_passDaysOf_19 rfl rfl ?_
      refine Z_get (o := o) (c := 0) (k := 12) (v := .int ((s o).1 12)) hC ho zs_0 lkX0_49 rfl dX0_passDaysOf_20 ?_
      refine Z_istore_n (V2 := [(3, .int ((s o).1 12)), (0, .ref (ad o 0)), (1, .int x1), (2, .int x2), (4, .int x4)]) hC dX0_passDaysOf_23 rfl (by decide) rfl ?_
      refine Z_aload_n hC dX0_passDaysOf_24 rfl rfl ?_
      refine Z_iload_n hC dX0_passDaysOf_25 rfl rfl ?_
      obtain ⟨r4, s3, h5, k⟩ := k
      refine Z_callV (As := [.int x1]) (rest := []) hC h5 cvX0_94 ⟨0, ho, zs_0, _, rfl, rfl⟩ rfl rfl (Nat.le_of_ble_eq_true rfl) dX0_passDaysOf_26 ?_
      refine Z_pop hC dX0_passDaysOf_29 rfl ?_
      refine Z_iinc (v := x4 + 1) (V2 := [(4, .int (x4 + 1)), (3, .int ((s o).1 12)), (0, .ref (ad o 0)), (1, .int x1), (2, .int x2)]) hC dX0_passDaysOf_30 rfl rfl (by decide) rfl ?_
      refine Z_goto (tgt := 5) hC dX0_passDaysOf_33 (by decide) ?_
      exact Z_pick [2, 3, 4, 1, 0] rfl k
set_option maxRecDepth 100000 in
set_option maxHeartbeats 4000000 in
theorem bX0_daysTillDone_0 {o : Nat} (ho : zcls o = 0) {x1 : Int32} {x2 : Int32} {C : ZC} {X : Option Value} {Y : ZS} {s : ZS} (hC : Zok ad D ia C (d + 1) cX0_daysTillDone 6 RX0 (some .int)) (k : Z l ad D ia C X Y 5 [(0, .ref (ad o 0)), (1, .int x1), (2, .int x2), (3, .int 0), (4, .int 0)] [] s) : Z l ad D ia C X Y 0 [(0, .ref (ad o 0)), (1, .int x1), (2, .int x2)] [] s := by
  refine Z_iconst (v := 0) hC dX0_daysTillDone_0 rfl ?_
  refine Z_istore_n (V2 := [(3, .int 0), (0, .ref (ad o 0)), (1, .int x1), (2, .int x2)]) hC dX0_daysTillDone_1 rfl (by decide) rfl ?_
  refine Z_iconst (v := 0) hC dX0_daysTillDone_2 rfl ?_
  refine Z_istore (V2 := [(4, .int 0), (3, .int 0), (0, .ref (ad o 0)), (1, .int x1), (2, .int x2)]) hC dX0_daysTillDone_3 (by decide) rfl ?_
  exact Z_pick [2, 3, 4, 1, 0] rfl k
theorem eX0_daysTillDone {o : Nat} (ho : zcls o = 0) {x1 : Int32} {x2 : Int32} {X : Option Value} {Y : ZS} {s : ZS} (k : ∀ C : ZC, Zok ad D ia C (d + 1) cX0_daysTillDone 6 RX0 (some .int) → Z l ad D ia C X Y 5 [(0, .ref (ad o 0)), (1, .int x1), (2, .int x2), (3, .int 0), (4, .int 0)] [] s) : Ev l ad D ia (d + 1) mX0_daysTillDone [.ref (ad o 0), .int x1, .int x2] s X Y :=
  Ev.start (by decide +kernel) (Nat.le_of_ble_eq_true rfl) (fun C hC => bX0_daysTillDone_0 ho hC (k C hC))
set_option maxRecDepth 100000 in
set_option maxHeartbeats 4000000 in
theorem bX0_daysTillDone_5 {o : Nat} (ho : zcls o = 0) {x1 : Int32} {x2 : Int32} {x3 : Int32} {x4 : Int32} {C : ZC} {X : Option Value} {Y : ZS} {s : ZS} (hC : Zok ad D ia C (d + 1) cX0_daysTillDone 6 RX0 (some .int)) (k : ((x2 < x4 → (X = some (.int ((-4))) ∧ Y = s)) ∧ (¬ x2 < x4 → ((¬ x3 = 0 → (X = some (.int ((-4))) ∧ Y = s)) ∧ (x3 = 0 → (∃ (r4 : Int32) (s3 : ZS), Ev l ad D ia d mX0_isDone [.ref (ad o 0), .int x1] s (some (.int r4)) s3 ∧ ((r4 = 0 → (∃ (r8 : Int32) (s7 : ZS), Ev l ad D ia d mX0_spendDay [.ref (ad o 0), .int x1] s3 (some (.int r8)) s7 ∧ ((r8 = ((-4)) → Z l ad D ia C X Y 5 [(0, .ref (ad o 0)), (1, .int x1), (2, .int x2), (3, .int 0), (4, .int (x4 + 1))] [] s7) ∧ (¬ r8 = ((-4)) → ((¬ ((s7 o).1 12) = ((s3 o).1 12) → Z l ad D ia C X Y 5 [(0, .ref (ad o 0)), (1, .int x1), (2, .int x2), (3, .int 0), (4, .int (x4 + 1))] [] s7) ∧ (((s7 o).1 12) = ((s3 o).1 12) → Z l ad D ia C X Y 5 [(0, .ref (ad o 0)), (1, .int x1), (2, .int x2), (3, .int 1), (4, .int (x4 + 1))] [] s7)))))) ∧ (¬ r4 = 0 → (X = some (.int x4) ∧ Y = s3))))))))) : Z l ad D ia C X Y 5 [(0, .ref (ad o 0)), (1, .int x1), (2, .int x2), (3, .int x3), (4, .int x4)] [] s := by
  refine Z_iload hC dX0_daysTillDone_5 rfl ?_
  refine Z_iload_n hC dX0_daysTillDone_7 rfl rfl ?_
  refine Z_icmp_gt (tgt := 63) hC dX0_daysTillDone_8 (by decide) (fun c1 => ?_) (fun c1 => ?_)
  · have k := k.1 c1
    refine Z_bipush (v := (-4)) hC dX0_daysTillDone_63 rfl ?_
    exact Z_iret hC dX0_daysTillDone_65 k.1 k.2
  · have k := k.2 c1
    refine Z_iload_n hC dX0_daysTillDone_11 rfl rfl ?_
    refine Z_if_ne (tgt := 63) hC dX0_daysTillDone_12 (by decide) (fun c2 => ?_) (fun c2 => ?_)
    · have k := k.1 c2
      refine Z_bipush (v := (-4)) hC dX0_daysTillDone_63 rfl ?_
      exact Z_iret hC dX0_daysTillDone_65 k.1 k.2
    · have k := k.2 c2
      refine Z_aload_n hC dX0_daysTillDone_15 rfl rfl ?_
      refine Z_iload_n hC dX0_daysTillDone_16 rfl rfl ?_
      obtain ⟨r4, s3, h5, k⟩ := k
      refine Z_callV (As := [.int x1]) (rest := []) hC h5 cvX0_65 ⟨0, ho, zs_0, _, rfl, rfl⟩ rfl rfl (Nat.le_of_ble_eq_true rfl) dX0_daysTillDone_17 ?_
      refine Z_if_eq (tgt := 26) hC dX0_daysTillDone_20 (by decide) (fun c6 => ?_) (fun c6 => ?_)
      · have k := k.1 c6
        refine Z_aload_n hC dX0_daysTillDone_26 rfl rfl ?_
        refine Z_get (o := o) (c := 0) (k := 12) (v := .int ((s3 o).1 12)) hC ho zs_0 lkX0_49 rfl dX0_daysTillDone_27 ?_
        refine Z_istore (V2 := [(5, .int ((s3 o).1 12)), (0, .ref (ad o 0)), (1, .int x1), (2, .int x2), (3, .int x3), (4, .int x4)]) hC dX0_daysTillDone_30 (by decide) rfl ?_
        refine Z_aload_n hC dX0_daysTillDone_32 rfl rfl ?_
        refine Z_iload_n hC dX0_daysTillDone_33 rfl rfl ?_
        obtain ⟨r8, s7, h9, k⟩ := k
        refine Z_callV (As := [.int x1]) (rest := []) hC h9 cvX0_94 ⟨0, ho, zs_0, _, rfl, rfl⟩ rfl rfl (Nat.le_of_ble_eq_true rfl) dX0_daysTillDone_34 ?_
        refine Z_bipush (v := (-4)) hC dX0_daysTillDone_37 rfl ?_
        refine Z_icmp_eq (tgt := 55) hC dX0_daysTillDone_39 (by decide) (fun c10 => ?_) (fun c10 => ?_)
        · have k := k.1 c10
          refine Z_iconst (v := 0) hC dX0_daysTillDone_55 rfl ?_
          refine Z_istore_n (V2 := [(3, .int 0), (5, .int ((s3 o).1 12)), (0, .ref (ad o 0)), (1, .int x1), (2, .int x2), (4, .int x4)]) hC dX0_daysTillDone_56 rfl (by decide) rfl ?_
          refine Z_iinc (v := x4 + 1) (V2 := [(4, .int (x4 + 1)), (3, .int 0), (5, .int ((s3 o).1 12)), (0, .ref (ad o 0)), (1, .int x1), (2, .int x2)]) hC dX0_daysTillDone_57 rfl rfl (by decide) rfl ?_
          refine Z_goto (tgt := 5) hC dX0_daysTillDone_60 (by decide) ?_
          exact Z_pick [3, 4, 5, 1, 0] rfl k
        · have k := k.2 c10
          refine Z_aload_n hC dX0_daysTillDone_42 rfl rfl ?_
          refine Z_get (o := o) (c := 0) (k := 12) (v := .int ((s7 o).1 12)) hC ho zs_0 lkX0_49 rfl dX0_daysTillDone_43 ?_
          refine Z_iload hC dX0_daysTillDone_46 rfl ?_
          refine Z_icmp_ne (tgt := 55) hC dX0_daysTillDone_48 (by decide) (fun c11 => ?_) (fun c11 => ?_)
          · have k := k.1 c11
            refine Z_iconst (v := 0) hC dX0_daysTillDone_55 rfl ?_
            refine Z_istore_n (V2 := [(3, .int 0), (5, .int ((s3 o).1 12)), (0, .ref (ad o 0)), (1, .int x1), (2, .int x2), (4, .int x4)]) hC dX0_daysTillDone_56 rfl (by decide) rfl ?_
            refine Z_iinc (v := x4 + 1) (V2 := [(4, .int (x4 + 1)), (3, .int 0), (5, .int ((s3 o).1 12)), (0, .ref (ad o 0)), (1, .int x1), (2, .int x2)]) hC dX0_daysTillDone_57 rfl rfl (by decide) rfl ?_
            refine Z_goto (tgt := 5) hC dX0_daysTillDone_60 (by decide) ?_
            exact Z_pick [3, 4, 5, 1, 0] rfl k
          · have k := k.2 c11
            refine Z_iconst (v := 1) hC dX0_daysTillDone_51 rfl ?_
            refine Z_goto (tgt := 56) hC dX0_daysTillDone_52 (by decide) ?_
            refine Z_istore_n (V2 := [(3, .int 1), (5, .int ((s3 o).1 12)), (0, .ref (ad o 0)), (1, .int x1), (2, .int x2), (4, .int x4)]) hC dX0_daysTillDone_56 rfl (by decide) rfl ?_
            refine Z_iinc (v := x4 + 1) (V2 := [(4, .int (x4 + 1)), (3, .int 1), (5, .int ((s3 o).1 12)), (0, .ref (ad o 0)), (1, .int x1), (2, .int x2)]) hC dX0_daysTillDone_57 rfl rfl (by decide) rfl ?_
            refine Z_goto (tgt := 5) hC dX0_daysTillDone_60 (by decide) ?_
            exact Z_pick [3, 4, 5, 1, 0] rfl k
      · have k := k.2 c6
        refine Z_iload hC dX0_daysTillDone_23 rfl ?_
        exact Z_iret hC dX0_daysTillDone_25 k.1 k.2
set_option maxRecDepth 100000 in
set_option maxHeartbeats 4000000 in
theorem bX0_changePlaces_0 {o : Nat} (ho : zcls o = 0) {x1 : Int32} {x2 : Int32} {C : ZC} {X : Option Value} {Y : ZS} {s : ZS} (hC : Zok ad D ia C (d + 1) cX0_changePlaces 3 RX0 none) (k : (∃ s1 : ZS, Ev l ad D ia d mX8_exchange [.ref (ad o 2), .int x1, .int x2] s none s1 ∧ (∃ s3 : ZS, Ev l ad D ia d mX8_exchange [.ref (ad o 3), .int x1, .int x2] s1 none s3 ∧ (X = none ∧ Y = s3)))) : Z l ad D ia C X Y 0 [(0, .ref (ad o 0)), (1, .int x1), (2, .int x2)] [] s := by
  refine Z_aload_n hC dX0_changePlaces_0 rfl rfl ?_
  refine Z_get (o := o) (c := 0) (k := 1) (v := .ref (ad o 2)) hC ho zs_0 lkX0_9 rfl dX0_changePlaces_1 ?_
  refine Z_iload_n hC dX0_changePlaces_4 rfl rfl ?_
  refine Z_iload_n hC dX0_changePlaces_5 rfl rfl ?_
  obtain ⟨s1, h2, k⟩ := k
  refine Z_callN (As := [.ref (ad o 2), .int x1, .int x2]) (rest := []) hC h2 csX0_100 rfl rfl (Nat.le_of_ble_eq_true rfl) dX0_changePlaces_6 ?_
  refine Z_aload_n hC dX0_changePlaces_9 rfl rfl ?_
  refine Z_get (o := o) (c := 0) (k := 2) (v := .ref (ad o 3)) hC ho zs_0 lkX0_15 rfl dX0_changePlaces_10 ?_
  refine Z_iload_n hC dX0_changePlaces_13 rfl rfl ?_
  refine Z_iload_n hC dX0_changePlaces_14 rfl rfl ?_
  obtain ⟨s3, h4, k⟩ := k
  refine Z_callN (As := [.ref (ad o 3), .int x1, .int x2]) (rest := []) hC h4 csX0_100 rfl rfl (Nat.le_of_ble_eq_true rfl) dX0_changePlaces_15 ?_
  exact Z_vret hC dX0_changePlaces_18 k.1 k.2
theorem eX0_changePlaces {o : Nat} (ho : zcls o = 0) {x1 : Int32} {x2 : Int32} {X : Option Value} {Y : ZS} {s : ZS} (k : (∃ s1 : ZS, Ev l ad D ia d mX8_exchange [.ref (ad o 2), .int x1, .int x2] s none s1 ∧ (∃ s3 : ZS, Ev l ad D ia d mX8_exchange [.ref (ad o 3), .int x1, .int x2] s1 none s3 ∧ (X = none ∧ Y = s3)))) : Ev l ad D ia (d + 1) mX0_changePlaces [.ref (ad o 0), .int x1, .int x2] s X Y :=
  Ev.start (by decide +kernel) (Nat.le_of_ble_eq_true rfl) (fun C hC => bX0_changePlaces_0 ho hC k)
end ZL
