/-! THE REFERENCE'S CONSTRUCTOR, up to its calls (laid by wip/gmake.py) -/
def mX9_init : ZM := (yX9_init, cX9_init, 2, none)
set_option maxRecDepth 100000 in
set_option maxHeartbeats 8000000 in
theorem mk9_a {l : Launch} {D : va_G} {ia : Nat → ClassId} {C : ZC} {d b n i0 : Nat} {es0 : List va_E} {Qc : Array Value → State → Outcome → State → Prop} (hC : Yok D ia C (d + 1) 13 1634 cX9_init 2 RX9) (kk : Y l D C 13 1634 b n es0 i0 Qc 128 [(1, .int 4), (0, .ref (b + i0))] [] (po9 n) (bl9 ia n) 1634) : Y l D C 13 1634 b n es0 i0 Qc 0 [(0, .ref (b + i0))] [] (.inr (9, [.null, .null, .null, .int 0, .int 0, .null, .int 0, .int 0, .int 0, .int 0, .null, .int 0, .int 0, .int 0, .int 0, .int 0, .int 0, .int 0, .int 0, .int 0, .int 0, .int 0, .null, .null, .long 0, .long 0, .long 0, .null, .null, .null, .null, .null, .int 0, .null])) [] 0 := by
  refine Y_aload_n hC dX9_init_0 rfl rfl ?_
  refine Y_objInit hC oiRX9 oiI oiC dX9_init_1 ?_
  refine Y_aload_n hC dX9_init_4 rfl rfl ?_
  refine Y_sipush (v := 186) hC dX9_init_5 (by decide) ?_
  refine Y_newa (t0 := 0) (N := 186) hC rfl ac_int rfl (fun _ h => h) rfl (by decide) (by decide) (by decide) (Nat.le_of_ble_eq_true rfl) (Nat.le_of_ble_eq_true rfl) dX9_init_8 ?_
  refine Y_put hC pfRX9_7 rfl rfl (Nat.le_of_ble_eq_true rfl) dX9_init_10 ?_
  show Y l D C 13 1634 b n es0 i0 Qc 13 [(0, .ref (b + i0))] [] (.inr (9, [.ref n, .null, .null, .int 0, .int 0, .null, .int 0, .int 0, .int 0, .int 0, .null, .int 0, .int 0, .int 0, .int 0, .int 0, .int 0, .int 0, .int 0, .int 0, .int 0, .int 0, .null, .null, .long 0, .long 0, .long 0, .null, .null, .null, .null, .null, .int 0, .null])) [yr (ia 0) 186] 186
  refine Y_aload_n hC dX9_init_13 rfl rfl ?_
  refine Y_bipush (v := 62) hC dX9_init_14 (by decide) ?_
  refine Y_newa (t0 := 0) (N := 62) hC rfl ac_int rfl (fun _ h => h) rfl (by decide) (by decide) (by decide) (Nat.le_of_ble_eq_true rfl) (Nat.le_of_ble_eq_true rfl) dX9_init_16 ?_
  refine Y_put hC pfRX9_13 rfl rfl (Nat.le_of_ble_eq_true rfl) dX9_init_18 ?_
  show Y l D C 13 1634 b n es0 i0 Qc 21 [(0, .ref (b + i0))] [] (.inr (9, [.ref n, .ref (n + 1), .null, .int 0, .int 0, .null, .int 0, .int 0, .int 0, .int 0, .null, .int 0, .int 0, .int 0, .int 0, .int 0, .int 0, .int 0, .int 0, .int 0, .int 0, .int 0, .null, .null, .long 0, .long 0, .long 0, .null, .null, .null, .null, .null, .int 0, .null])) [yr (ia 0) 186, yr (ia 0) 62] 248
  refine Y_aload_n hC dX9_init_21 rfl rfl ?_
  refine Y_iconst (v := 2) hC dX9_init_22 (by decide) ?_
  refine Y_newa (t0 := 2) (N := 2) hC rfl ac_boolean rfl (fun _ h => h) rfl (by decide) (by decide) (by decide) (Nat.le_of_ble_eq_true rfl) (Nat.le_of_ble_eq_true rfl) dX9_init_23 ?_
  refine Y_put hC pfRX9_16 rfl rfl (Nat.le_of_ble_eq_true rfl) dX9_init_25 ?_
  show Y l D C 13 1634 b n es0 i0 Qc 28 [(0, .ref (b + i0))] [] (.inr (9, [.ref n, .ref (n + 1), .ref (n + 2), .int 0, .int 0, .null, .int 0, .int 0, .int 0, .int 0, .null, .int 0, .int 0, .int 0, .int 0, .int 0, .int 0, .int 0, .int 0, .int 0, .int 0, .int 0, .null, .null, .long 0, .long 0, .long 0, .null, .null, .null, .null, .null, .int 0, .null])) [yr (ia 0) 186, yr (ia 0) 62, yr (ia 2) 2] 250
  refine Y_aload_n hC dX9_init_28 rfl rfl ?_
  refine Y_bipush (v := 62) hC dX9_init_29 (by decide) ?_
  refine Y_newa (t0 := 0) (N := 62) hC rfl ac_int rfl (fun _ h => h) rfl (by decide) (by decide) (by decide) (Nat.le_of_ble_eq_true rfl) (Nat.le_of_ble_eq_true rfl) dX9_init_31 ?_
  refine Y_put hC pfRX9_20 rfl rfl (Nat.le_of_ble_eq_true rfl) dX9_init_33 ?_
  show Y l D C 13 1634 b n es0 i0 Qc 36 [(0, .ref (b + i0))] [] (.inr (9, [.ref n, .ref (n + 1), .ref (n + 2), .int 0, .int 0, .ref (n + 3), .int 0, .int 0, .int 0, .int 0, .null, .int 0, .int 0, .int 0, .int 0, .int 0, .int 0, .int 0, .int 0, .int 0, .int 0, .int 0, .null, .null, .long 0, .long 0, .long 0, .null, .null, .null, .null, .null, .int 0, .null])) [yr (ia 0) 186, yr (ia 0) 62, yr (ia 2) 2, yr (ia 0) 62] 312
  refine Y_aload_n hC dX9_init_36 rfl rfl ?_
  refine Y_sipush (v := 160) hC dX9_init_37 (by decide) ?_
  refine Y_newa (t0 := 0) (N := 160) hC rfl ac_int rfl (fun _ h => h) rfl (by decide) (by decide) (by decide) (Nat.le_of_ble_eq_true rfl) (Nat.le_of_ble_eq_true rfl) dX9_init_40 ?_
  refine Y_put hC pfRX9_23 rfl rfl (Nat.le_of_ble_eq_true rfl) dX9_init_42 ?_
  show Y l D C 13 1634 b n es0 i0 Qc 45 [(0, .ref (b + i0))] [] (.inr (9, [.ref n, .ref (n + 1), .ref (n + 2), .int 0, .int 0, .ref (n + 3), .int 0, .int 0, .int 0, .int 0, .ref (n + 4), .int 0, .int 0, .int 0, .int 0, .int 0, .int 0, .int 0, .int 0, .int 0, .int 0, .int 0, .null, .null, .long 0, .long 0, .long 0, .null, .null, .null, .null, .null, .int 0, .null])) [yr (ia 0) 186, yr (ia 0) 62, yr (ia 2) 2, yr (ia 0) 62, yr (ia 0) 160] 472
  refine Y_aload_n hC dX9_init_45 rfl rfl ?_
  refine Y_iconst (v := 4) hC dX9_init_46 (by decide) ?_
  refine Y_newa (t0 := 0) (N := 4) hC rfl ac_int rfl (fun _ h => h) rfl (by decide) (by decide) (by decide) (Nat.le_of_ble_eq_true rfl) (Nat.le_of_ble_eq_true rfl) dX9_init_47 ?_
  refine Y_put hC pfRX9_26 rfl rfl (Nat.le_of_ble_eq_true rfl) dX9_init_49 ?_
  show Y l D C 13 1634 b n es0 i0 Qc 52 [(0, .ref (b + i0))] [] (.inr (9, [.ref n, .ref (n + 1), .ref (n + 2), .int 0, .int 0, .ref (n + 3), .int 0, .int 0, .int 0, .int 0, .ref (n + 4), .int 0, .int 0, .int 0, .int 0, .int 0, .int 0, .int 0, .int 0, .int 0, .int 0, .int 0, .ref (n + 5), .null, .long 0, .long 0, .long 0, .null, .null, .null, .null, .null, .int 0, .null])) [yr (ia 0) 186, yr (ia 0) 62, yr (ia 2) 2, yr (ia 0) 62, yr (ia 0) 160, yr (ia 0) 4] 476
  refine Y_aload_n hC dX9_init_52 rfl rfl ?_
  refine Y_iconst (v := 4) hC dX9_init_53 (by decide) ?_
  refine Y_newa (t0 := 0) (N := 4) hC rfl ac_int rfl (fun _ h => h) rfl (by decide) (by decide) (by decide) (Nat.le_of_ble_eq_true rfl) (Nat.le_of_ble_eq_true rfl) dX9_init_54 ?_
  refine Y_put hC pfRX9_29 rfl rfl (Nat.le_of_ble_eq_true rfl) dX9_init_56 ?_
  show Y l D C 13 1634 b n es0 i0 Qc 59 [(0, .ref (b + i0))] [] (.inr (9, [.ref n, .ref (n + 1), .ref (n + 2), .int 0, .int 0, .ref (n + 3), .int 0, .int 0, .int 0, .int 0, .ref (n + 4), .int 0, .int 0, .int 0, .int 0, .int 0, .int 0, .int 0, .int 0, .int 0, .int 0, .int 0, .ref (n + 5), .ref (n + 6), .long 0, .long 0, .long 0, .null, .null, .null, .null, .null, .int 0, .null])) [yr (ia 0) 186, yr (ia 0) 62, yr (ia 2) 2, yr (ia 0) 62, yr (ia 0) 160, yr (ia 0) 4, yr (ia 0) 4] 480
  refine Y_aload_n hC dX9_init_59 rfl rfl ?_
  refine Y_bipush (v := 84) hC dX9_init_60 (by decide) ?_
  refine Y_newa (t0 := 0) (N := 84) hC rfl ac_int rfl (fun _ h => h) rfl (by decide) (by decide) (by decide) (Nat.le_of_ble_eq_true rfl) (Nat.le_of_ble_eq_true rfl) dX9_init_62 ?_
  refine Y_put hC pfRX9_32 rfl rfl (Nat.le_of_ble_eq_true rfl) dX9_init_64 ?_
  show Y l D C 13 1634 b n es0 i0 Qc 67 [(0, .ref (b + i0))] [] (.inr (9, [.ref n, .ref (n + 1), .ref (n + 2), .int 0, .int 0, .ref (n + 3), .int 0, .int 0, .int 0, .int 0, .ref (n + 4), .int 0, .int 0, .int 0, .int 0, .int 0, .int 0, .int 0, .int 0, .int 0, .int 0, .int 0, .ref (n + 5), .ref (n + 6), .long 0, .long 0, .long 0, .ref (n + 7), .null, .null, .null, .null, .int 0, .null])) [yr (ia 0) 186, yr (ia 0) 62, yr (ia 2) 2, yr (ia 0) 62, yr (ia 0) 160, yr (ia 0) 4, yr (ia 0) 4, yr (ia 0) 84] 564
  refine Y_aload_n hC dX9_init_67 rfl rfl ?_
  refine Y_sipush (v := 840) hC dX9_init_68 (by decide) ?_
  refine Y_newa (t0 := 0) (N := 840) hC rfl ac_int rfl (fun _ h => h) rfl (by decide) (by decide) (by decide) (Nat.le_of_ble_eq_true rfl) (Nat.le_of_ble_eq_true rfl) dX9_init_71 ?_
  refine Y_put hC pfRX9_35 rfl rfl (Nat.le_of_ble_eq_true rfl) dX9_init_73 ?_
  show Y l D C 13 1634 b n es0 i0 Qc 76 [(0, .ref (b + i0))] [] (.inr (9, [.ref n, .ref (n + 1), .ref (n + 2), .int 0, .int 0, .ref (n + 3), .int 0, .int 0, .int 0, .int 0, .ref (n + 4), .int 0, .int 0, .int 0, .int 0, .int 0, .int 0, .int 0, .int 0, .int 0, .int 0, .int 0, .ref (n + 5), .ref (n + 6), .long 0, .long 0, .long 0, .ref (n + 7), .ref (n + 8), .null, .null, .null, .int 0, .null])) [yr (ia 0) 186, yr (ia 0) 62, yr (ia 2) 2, yr (ia 0) 62, yr (ia 0) 160, yr (ia 0) 4, yr (ia 0) 4, yr (ia 0) 84, yr (ia 0) 840] 1404
  refine Y_aload_n hC dX9_init_76 rfl rfl ?_
  refine Y_iconst (v := 4) hC dX9_init_77 (by decide) ?_
  refine Y_newa (t0 := 0) (N := 4) hC rfl ac_int rfl (fun _ h => h) rfl (by decide) (by decide) (by decide) (Nat.le_of_ble_eq_true rfl) (Nat.le_of_ble_eq_true rfl) dX9_init_78 ?_
  refine Y_put hC pfRX9_38 rfl rfl (Nat.le_of_ble_eq_true rfl) dX9_init_80 ?_
  show Y l D C 13 1634 b n es0 i0 Qc 83 [(0, .ref (b + i0))] [] (.inr (9, [.ref n, .ref (n + 1), .ref (n + 2), .int 0, .int 0, .ref (n + 3), .int 0, .int 0, .int 0, .int 0, .ref (n + 4), .int 0, .int 0, .int 0, .int 0, .int 0, .int 0, .int 0, .int 0, .int 0, .int 0, .int 0, .ref (n + 5), .ref (n + 6), .long 0, .long 0, .long 0, .ref (n + 7), .ref (n + 8), .ref (n + 9), .null, .null, .int 0, .null])) [yr (ia 0) 186, yr (ia 0) 62, yr (ia 2) 2, yr (ia 0) 62, yr (ia 0) 160, yr (ia 0) 4, yr (ia 0) 4, yr (ia 0) 84, yr (ia 0) 840, yr (ia 0) 4] 1408
  refine Y_aload_n hC dX9_init_83 rfl rfl ?_
  refine Y_iconst (v := 4) hC dX9_init_84 (by decide) ?_
  refine Y_newa (t0 := 0) (N := 4) hC rfl ac_int rfl (fun _ h => h) rfl (by decide) (by decide) (by decide) (Nat.le_of_ble_eq_true rfl) (Nat.le_of_ble_eq_true rfl) dX9_init_85 ?_
  refine Y_put hC pfRX9_41 rfl rfl (Nat.le_of_ble_eq_true rfl) dX9_init_87 ?_
  show Y l D C 13 1634 b n es0 i0 Qc 90 [(0, .ref (b + i0))] [] (.inr (9, [.ref n, .ref (n + 1), .ref (n + 2), .int 0, .int 0, .ref (n + 3), .int 0, .int 0, .int 0, .int 0, .ref (n + 4), .int 0, .int 0, .int 0, .int 0, .int 0, .int 0, .int 0, .int 0, .int 0, .int 0, .int 0, .ref (n + 5), .ref (n + 6), .long 0, .long 0, .long 0, .ref (n + 7), .ref (n + 8), .ref (n + 9), .ref (n + 10), .null, .int 0, .null])) [yr (ia 0) 186, yr (ia 0) 62, yr (ia 2) 2, yr (ia 0) 62, yr (ia 0) 160, yr (ia 0) 4, yr (ia 0) 4, yr (ia 0) 84, yr (ia 0) 840, yr (ia 0) 4, yr (ia 0) 4] 1412
  refine Y_aload_n hC dX9_init_90 rfl rfl ?_
  refine Y_sipush (v := 160) hC dX9_init_91 (by decide) ?_
  refine Y_newa (t0 := 0) (N := 160) hC rfl ac_int rfl (fun _ h => h) rfl (by decide) (by decide) (by decide) (Nat.le_of_ble_eq_true rfl) (Nat.le_of_ble_eq_true rfl) dX9_init_94 ?_
  refine Y_put hC pfRX9_44 rfl rfl (Nat.le_of_ble_eq_true rfl) dX9_init_96 ?_
  show Y l D C 13 1634 b n es0 i0 Qc 99 [(0, .ref (b + i0))] [] (.inr (9, [.ref n, .ref (n + 1), .ref (n + 2), .int 0, .int 0, .ref (n + 3), .int 0, .int 0, .int 0, .int 0, .ref (n + 4), .int 0, .int 0, .int 0, .int 0, .int 0, .int 0, .int 0, .int 0, .int 0, .int 0, .int 0, .ref (n + 5), .ref (n + 6), .long 0, .long 0, .long 0, .ref (n + 7), .ref (n + 8), .ref (n + 9), .ref (n + 10), .ref (n + 11), .int 0, .null])) [yr (ia 0) 186, yr (ia 0) 62, yr (ia 2) 2, yr (ia 0) 62, yr (ia 0) 160, yr (ia 0) 4, yr (ia 0) 4, yr (ia 0) 84, yr (ia 0) 840, yr (ia 0) 4, yr (ia 0) 4, yr (ia 0) 160] 1572
  refine Y_aload_n hC dX9_init_99 rfl rfl ?_
  refine Y_bipush (v := 62) hC dX9_init_100 (by decide) ?_
  refine Y_newa (t0 := 0) (N := 62) hC rfl ac_int rfl (fun _ h => h) rfl (by decide) (by decide) (by decide) (Nat.le_of_ble_eq_true rfl) (Nat.le_of_ble_eq_true rfl) dX9_init_102 ?_
  refine Y_put hC pfRX9_47 rfl rfl (Nat.le_of_ble_eq_true rfl) dX9_init_104 ?_
  show Y l D C 13 1634 b n es0 i0 Qc 107 [(0, .ref (b + i0))] [] (.inr (9, [.ref n, .ref (n + 1), .ref (n + 2), .int 0, .int 0, .ref (n + 3), .int 0, .int 0, .int 0, .int 0, .ref (n + 4), .int 0, .int 0, .int 0, .int 0, .int 0, .int 0, .int 0, .int 0, .int 0, .int 0, .int 0, .ref (n + 5), .ref (n + 6), .long 0, .long 0, .long 0, .ref (n + 7), .ref (n + 8), .ref (n + 9), .ref (n + 10), .ref (n + 11), .int 0, .ref (n + 12)])) [yr (ia 0) 186, yr (ia 0) 62, yr (ia 2) 2, yr (ia 0) 62, yr (ia 0) 160, yr (ia 0) 4, yr (ia 0) 4, yr (ia 0) 84, yr (ia 0) 840, yr (ia 0) 4, yr (ia 0) 4, yr (ia 0) 160, yr (ia 0) 62] 1634
  refine Y_iconst (v := 0) hC dX9_init_107 (by decide) ?_
  refine Y_istore_n (V2 := [(1, .int 0), (0, .ref (b + i0))]) hC dX9_init_108 rfl (by decide) rfl ?_
  refine Y_iload_n hC dX9_init_109 rfl rfl ?_
  refine Y_iconst (v := 4) hC dX9_init_110 (by decide) ?_
  refine Y_icmp_ge (tgt := 128) hC dX9_init_111 (by decide) (fun q => absurd q (by decide)) (fun _ => ?_)
  refine Y_aload_n hC dX9_init_114 rfl rfl ?_
  refine Y_get hC lkX9_38 rfl dX9_init_115 ?_
  refine Y_iload_n hC dX9_init_118 rfl rfl ?_
  refine Y_bipush (v := (-4)) hC dX9_init_119 (by decide) ?_
  refine Y_iast (j := 9) hC rfl (vp_in_nI (n := 0) (by decide) (by decide)) dX9_init_121 ?_
  show Y l D C 13 1634 b n es0 i0 Qc 122 [(1, .int 0), (0, .ref (b + i0))] [] (.inr (9, [.ref n, .ref (n + 1), .ref (n + 2), .int 0, .int 0, .ref (n + 3), .int 0, .int 0, .int 0, .int 0, .ref (n + 4), .int 0, .int 0, .int 0, .int 0, .int 0, .int 0, .int 0, .int 0, .int 0, .int 0, .int 0, .ref (n + 5), .ref (n + 6), .long 0, .long 0, .long 0, .ref (n + 7), .ref (n + 8), .ref (n + 9), .ref (n + 10), .ref (n + 11), .int 0, .ref (n + 12)])) [yr (ia 0) 186, yr (ia 0) 62, yr (ia 2) 2, yr (ia 0) 62, yr (ia 0) 160, yr (ia 0) 4, yr (ia 0) 4, yr (ia 0) 84, yr (ia 0) 840, .inl (ia 0, 4, .inl (upd (fun _ => 0) 0 (-4))), yr (ia 0) 4, yr (ia 0) 160, yr (ia 0) 62] 1634
  refine Y_iinc (v := 1) (V2 := [(1, .int 1), (0, .ref (b + i0))]) hC dX9_init_122 rfl (by decide) (by decide) rfl ?_
  refine Y_goto (tgt := 109) hC dX9_init_125 (by decide) ?_
  refine Y_iload_n hC dX9_init_109 rfl rfl ?_
  refine Y_iconst (v := 4) hC dX9_init_110 (by decide) ?_
  refine Y_icmp_ge (tgt := 128) hC dX9_init_111 (by decide) (fun q => absurd q (by decide)) (fun _ => ?_)
  refine Y_aload_n hC dX9_init_114 rfl rfl ?_
  refine Y_get hC lkX9_38 rfl dX9_init_115 ?_
  refine Y_iload_n hC dX9_init_118 rfl rfl ?_
  refine Y_bipush (v := (-4)) hC dX9_init_119 (by decide) ?_
  refine Y_iast (j := 9) hC rfl (vp_in_nI (n := 1) (by decide) (by decide)) dX9_init_121 ?_
  show Y l D C 13 1634 b n es0 i0 Qc 122 [(1, .int 1), (0, .ref (b + i0))] [] (.inr (9, [.ref n, .ref (n + 1), .ref (n + 2), .int 0, .int 0, .ref (n + 3), .int 0, .int 0, .int 0, .int 0, .ref (n + 4), .int 0, .int 0, .int 0, .int 0, .int 0, .int 0, .int 0, .int 0, .int 0, .int 0, .int 0, .ref (n + 5), .ref (n + 6), .long 0, .long 0, .long 0, .ref (n + 7), .ref (n + 8), .ref (n + 9), .ref (n + 10), .ref (n + 11), .int 0, .ref (n + 12)])) [yr (ia 0) 186, yr (ia 0) 62, yr (ia 2) 2, yr (ia 0) 62, yr (ia 0) 160, yr (ia 0) 4, yr (ia 0) 4, yr (ia 0) 84, yr (ia 0) 840, .inl (ia 0, 4, .inl (upd (upd (fun _ => 0) 0 (-4)) 1 (-4))), yr (ia 0) 4, yr (ia 0) 160, yr (ia 0) 62] 1634
  refine Y_iinc (v := 2) (V2 := [(1, .int 2), (0, .ref (b + i0))]) hC dX9_init_122 rfl (by decide) (by decide) rfl ?_
  refine Y_goto (tgt := 109) hC dX9_init_125 (by decide) ?_
  refine Y_iload_n hC dX9_init_109 rfl rfl ?_
  refine Y_iconst (v := 4) hC dX9_init_110 (by decide) ?_
  refine Y_icmp_ge (tgt := 128) hC dX9_init_111 (by decide) (fun q => absurd q (by decide)) (fun _ => ?_)
  refine Y_aload_n hC dX9_init_114 rfl rfl ?_
  refine Y_get hC lkX9_38 rfl dX9_init_115 ?_
  refine Y_iload_n hC dX9_init_118 rfl rfl ?_
  refine Y_bipush (v := (-4)) hC dX9_init_119 (by decide) ?_
  refine Y_iast (j := 9) hC rfl (vp_in_nI (n := 2) (by decide) (by decide)) dX9_init_121 ?_
  show Y l D C 13 1634 b n es0 i0 Qc 122 [(1, .int 2), (0, .ref (b + i0))] [] (.inr (9, [.ref n, .ref (n + 1), .ref (n + 2), .int 0, .int 0, .ref (n + 3), .int 0, .int 0, .int 0, .int 0, .ref (n + 4), .int 0, .int 0, .int 0, .int 0, .int 0, .int 0, .int 0, .int 0, .int 0, .int 0, .int 0, .ref (n + 5), .ref (n + 6), .long 0, .long 0, .long 0, .ref (n + 7), .ref (n + 8), .ref (n + 9), .ref (n + 10), .ref (n + 11), .int 0, .ref (n + 12)])) [yr (ia 0) 186, yr (ia 0) 62, yr (ia 2) 2, yr (ia 0) 62, yr (ia 0) 160, yr (ia 0) 4, yr (ia 0) 4, yr (ia 0) 84, yr (ia 0) 840, .inl (ia 0, 4, .inl (upd (upd (upd (fun _ => 0) 0 (-4)) 1 (-4)) 2 (-4))), yr (ia 0) 4, yr (ia 0) 160, yr (ia 0) 62] 1634
  refine Y_iinc (v := 3) (V2 := [(1, .int 3), (0, .ref (b + i0))]) hC dX9_init_122 rfl (by decide) (by decide) rfl ?_
  refine Y_goto (tgt := 109) hC dX9_init_125 (by decide) ?_
  refine Y_iload_n hC dX9_init_109 rfl rfl ?_
  refine Y_iconst (v := 4) hC dX9_init_110 (by decide) ?_
  refine Y_icmp_ge (tgt := 128) hC dX9_init_111 (by decide) (fun q => absurd q (by decide)) (fun _ => ?_)
  refine Y_aload_n hC dX9_init_114 rfl rfl ?_
  refine Y_get hC lkX9_38 rfl dX9_init_115 ?_
  refine Y_iload_n hC dX9_init_118 rfl rfl ?_
  refine Y_bipush (v := (-4)) hC dX9_init_119 (by decide) ?_
  refine Y_iast (j := 9) hC rfl (vp_in_nI (n := 3) (by decide) (by decide)) dX9_init_121 ?_
  show Y l D C 13 1634 b n es0 i0 Qc 122 [(1, .int 3), (0, .ref (b + i0))] [] (.inr (9, [.ref n, .ref (n + 1), .ref (n + 2), .int 0, .int 0, .ref (n + 3), .int 0, .int 0, .int 0, .int 0, .ref (n + 4), .int 0, .int 0, .int 0, .int 0, .int 0, .int 0, .int 0, .int 0, .int 0, .int 0, .int 0, .ref (n + 5), .ref (n + 6), .long 0, .long 0, .long 0, .ref (n + 7), .ref (n + 8), .ref (n + 9), .ref (n + 10), .ref (n + 11), .int 0, .ref (n + 12)])) [yr (ia 0) 186, yr (ia 0) 62, yr (ia 2) 2, yr (ia 0) 62, yr (ia 0) 160, yr (ia 0) 4, yr (ia 0) 4, yr (ia 0) 84, yr (ia 0) 840, .inl (ia 0, 4, .inl (upd (upd (upd (upd (fun _ => 0) 0 (-4)) 1 (-4)) 2 (-4)) 3 (-4))), yr (ia 0) 4, yr (ia 0) 160, yr (ia 0) 62] 1634
  refine Y_iinc (v := 4) (V2 := [(1, .int 4), (0, .ref (b + i0))]) hC dX9_init_122 rfl (by decide) (by decide) rfl ?_
  refine Y_goto (tgt := 109) hC dX9_init_125 (by decide) ?_
  refine Y_iload_n hC dX9_init_109 rfl rfl ?_
  refine Y_iconst (v := 4) hC dX9_init_110 (by decide) ?_
  refine Y_icmp_ge (tgt := 128) hC dX9_init_111 (by decide) (fun _ => ?_) (fun q => absurd (by decide) q)
  exact kk
