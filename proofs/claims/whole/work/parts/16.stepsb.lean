section ZL
variable {l : Launch} {ad : ZA} {D : va_G} {ia : Nat → ClassId} {d : Nat}
set_option maxRecDepth 100000 in
set_option maxHeartbeats 4000000 in
theorem bX8_feed_0 {x1 : Int32} {C : ZC} {X : Option Value} {Y : ZS} {s : ZS} (hC : Zok ad D ia C (d + 1) cX8_feed 3 RX8 (some .int)) (k : (∃ (r2 : Int32) (s1 : ZS), Ev l ad D ia d mX8_outside [.int x1, .int 0, .int 127] s (some (.int r2)) s1 ∧ ((r2 = 0 → ((((s1 16).1 1) < 160 → (vp_in ((s1 16).1 1) 160 ∧ (∀ s7 : ZS, s7 = stA s1 16 0 ((s1 16).1 1).toNatClampNeg (vp_nar .byte x1.toInt8.toInt32) → (∀ s8 : ZS, s8 = stI s7 16 1 (((s7 16).1 1) + 1) → (X = some (.int ((s8 16).1 1)) ∧ Y = s8))))) ∧ (¬ ((s1 16).1 1) < 160 → (X = some (.int ((-3))) ∧ Y = s1)))) ∧ (¬ r2 = 0 → (X = some (.int ((-1))) ∧ Y = s1))))) : Z l ad D ia C X Y 0 [(0, .ref (ad 0 0)), (1, .int x1)] [] s := by
  refine Z_iload_n hC dX8_feed_0 rfl rfl ?_
  refine Z_iconst (v := 0) hC dX8_feed_1 rfl ?_
  refine Z_bipush (v := 127) hC dX8_feed_2 rfl ?_
  obtain ⟨r2, s1, h3, k⟩ := k
  refine Z_callS (As := [.int x1, .int 0, .int 127]) (rest := []) hC h3 csX8_68 rfl rfl (Nat.le_of_ble_eq_true rfl) dX8_feed_4 ?_
  refine Z_if_eq (tgt := 12) hC dX8_feed_7 (by decide) (fun c4 => ?_) (fun c4 => ?_)
  · have k := k.1 c4
    refine Z_aload_n hC dX8_feed_12 rfl rfl ?_
    refine Z_get (o := 0) (c := 8) (k := 2) (v := .ref (ad 17 0)) hC rfl zs_8 lkX8_22 rfl dX8_feed_13 ?_
    refine Z_get (o := 17) (c := 3) (k := 4) (v := .ref (ad 16 0)) hC rfl zs_3 lkX8_72 rfl dX8_feed_16 ?_
    refine Z_astore_n (V2 := [(2, .ref (ad 16 0)), (0, .ref (ad 0 0)), (1, .int x1)]) hC dX8_feed_19 rfl (by decide) rfl ?_
    refine Z_aload_n hC dX8_feed_20 rfl rfl ?_
    refine Z_get (o := 16) (c := 7) (k := 1) (v := .int ((s1 16).1 1)) hC rfl zs_7 lkX8_76 rfl dX8_feed_21 ?_
    refine Z_sipush (v := 160) hC dX8_feed_24 rfl ?_
    refine Z_icmp_lt (tgt := 33) hC dX8_feed_27 (by decide) (fun c5 => ?_) (fun c5 => ?_)
    · have k := k.1 c5
      refine Z_aload_n hC dX8_feed_33 rfl rfl ?_
      refine Z_get (o := 16) (c := 7) (k := 0) (v := .ref (ad 16 1)) hC rfl zs_7 lkX8_82 rfl dX8_feed_34 ?_
      refine Z_aload_n hC dX8_feed_37 rfl rfl ?_
      refine Z_get (o := 16) (c := 7) (k := 1) (v := .int ((s1 16).1 1)) hC rfl zs_7 lkX8_76 rfl dX8_feed_38 ?_
      refine Z_iload_n hC dX8_feed_41 rfl rfl ?_
      refine Z_i2b hC dX8_feed_42 ?_
      obtain ⟨h6, k⟩ := k
      refine Z_bast2 (o := 16) (k := 0) hC (zis_of rfl rfl) h6 dX8_feed_43 (fun s7 es7 => ?_)
      have k := k s7 es7
      refine Z_aload_n hC dX8_feed_44 rfl rfl ?_
      refine Z_dup hC dX8_feed_45 rfl ?_
      refine Z_get (o := 16) (c := 7) (k := 1) (v := .int ((s7 16).1 1)) hC rfl zs_7 lkX8_76 rfl dX8_feed_46 ?_
      refine Z_iconst (v := 1) hC dX8_feed_49 rfl ?_
      refine Z_iadd hC dX8_feed_50 ?_
      refine Z_putI (o := 16) (k := 1) hC rfl zs_7 pkX8_76 rfl rfl (hsX7_1 _ _ _) dX8_feed_51 (fun s8 es8 => ?_)
      have k := k s8 es8
      refine Z_aload_n hC dX8_feed_54 rfl rfl ?_
      refine Z_get (o := 16) (c := 7) (k := 1) (v := .int ((s8 16).1 1)) hC rfl zs_7 lkX8_76 rfl dX8_feed_55 ?_
      exact Z_iret hC dX8_feed_58 k.1 k.2
    · have k := k.2 c5
      refine Z_bipush (v := (-3)) hC dX8_feed_30 rfl ?_
      exact Z_iret hC dX8_feed_32 k.1 k.2
  · have k := k.2 c4
    refine Z_iconst (v := (-1)) hC dX8_feed_10 rfl ?_
    exact Z_iret hC dX8_feed_11 k.1 k.2
theorem eX8_feed {x1 : Int32} {X : Option Value} {Y : ZS} {s : ZS} (k : (∃ (r2 : Int32) (s1 : ZS), Ev l ad D ia d mX8_outside [.int x1, .int 0, .int 127] s (some (.int r2)) s1 ∧ ((r2 = 0 → ((((s1 16).1 1) < 160 → (vp_in ((s1 16).1 1) 160 ∧ (∀ s7 : ZS, s7 = stA s1 16 0 ((s1 16).1 1).toNatClampNeg (vp_nar .byte x1.toInt8.toInt32) → (∀ s8 : ZS, s8 = stI s7 16 1 (((s7 16).1 1) + 1) → (X = some (.int ((s8 16).1 1)) ∧ Y = s8))))) ∧ (¬ ((s1 16).1 1) < 160 → (X = some (.int ((-3))) ∧ Y = s1)))) ∧ (¬ r2 = 0 → (X = some (.int ((-1))) ∧ Y = s1))))) : Ev l ad D ia (d + 1) mX8_feed [.ref (ad 0 0), .int x1] s X Y :=
  Ev.start (by decide +kernel) (Nat.le_of_ble_eq_true rfl) (fun C hC => bX8_feed_0  hC k)
set_option maxRecDepth 100000 in
set_option maxHeartbeats 4000000 in
theorem bX8_end_0 {x1 : Int32} {C : ZC} {X : Option Value} {Y : ZS} {s : ZS} (hC : Zok ad D ia C (d + 1) cX8_end 4 RX8 (some .int)) (k : (∃ (r2 : Int32) (s1 : ZS), Ev l ad D ia d mX8_outside [.int x1, .int 0, .int ((s 16).1 1)] s (some (.int r2)) s1 ∧ ((r2 = 0 → (∀ s5 : ZS, s5 = stI s1 16 1 x1 → (X = some (.int ((s1 16).1 1)) ∧ Y = s5))) ∧ (¬ r2 = 0 → (X = some (.int ((-1))) ∧ Y = s1))))) : Z l ad D ia C X Y 0 [(0, .ref (ad 0 0)), (1, .int x1)] [] s := by
  refine Z_aload_n hC dX8_end_0 rfl rfl ?_
  refine Z_get (o := 0) (c := 8) (k := 2) (v := .ref (ad 17 0)) hC rfl zs_8 lkX8_22 rfl dX8_end_1 ?_
  refine Z_get (o := 17) (c := 3) (k := 4) (v := .ref (ad 16 0)) hC rfl zs_3 lkX8_72 rfl dX8_end_4 ?_
  refine Z_astore_n (V2 := [(2, .ref (ad 16 0)), (0, .ref (ad 0 0)), (1, .int x1)]) hC dX8_end_7 rfl (by decide) rfl ?_
  refine Z_iload_n hC dX8_end_8 rfl rfl ?_
  refine Z_iconst (v := 0) hC dX8_end_9 rfl ?_
  refine Z_aload_n hC dX8_end_10 rfl rfl ?_
  refine Z_get (o := 16) (c := 7) (k := 1) (v := .int ((s 16).1 1)) hC rfl zs_7 lkX8_76 rfl dX8_end_11 ?_
  obtain ⟨r2, s1, h3, k⟩ := k
  refine Z_callS (As := [.int x1, .int 0, .int ((s 16).1 1)]) (rest := []) hC h3 csX8_68 rfl rfl (Nat.le_of_ble_eq_true rfl) dX8_end_14 ?_
  refine Z_if_eq (tgt := 22) hC dX8_end_17 (by decide) (fun c4 => ?_) (fun c4 => ?_)
  · have k := k.1 c4
    refine Z_aload_n hC dX8_end_22 rfl rfl ?_
    refine Z_get (o := 16) (c := 7) (k := 1) (v := .int ((s1 16).1 1)) hC rfl zs_7 lkX8_76 rfl dX8_end_23 ?_
    refine Z_istore_n (V2 := [(3, .int ((s1 16).1 1)), (2, .ref (ad 16 0)), (0, .ref (ad 0 0)), (1, .int x1)]) hC dX8_end_26 rfl (by decide) rfl ?_
    refine Z_aload_n hC dX8_end_27 rfl rfl ?_
    refine Z_iload_n hC dX8_end_28 rfl rfl ?_
    refine Z_putI (o := 16) (k := 1) hC rfl zs_7 pkX8_76 rfl rfl (hsX7_1 _ _ _) dX8_end_29 (fun s5 es5 => ?_)
    have k := k s5 es5
    refine Z_iload_n hC dX8_end_32 rfl rfl ?_
    exact Z_iret hC dX8_end_33 k.1 k.2
  · have k := k.2 c4
    refine Z_iconst (v := (-1)) hC dX8_end_20 rfl ?_
    exact Z_iret hC dX8_end_21 k.1 k.2
theorem eX8_end {x1 : Int32} {X : Option Value} {Y : ZS} {s : ZS} (k : (∃ (r2 : Int32) (s1 : ZS), Ev l ad D ia d mX8_outside [.int x1, .int 0, .int ((s 16).1 1)] s (some (.int r2)) s1 ∧ ((r2 = 0 → (∀ s5 : ZS, s5 = stI s1 16 1 x1 → (X = some (.int ((s1 16).1 1)) ∧ Y = s5))) ∧ (¬ r2 = 0 → (X = some (.int ((-1))) ∧ Y = s1))))) : Ev l ad D ia (d + 1) mX8_end [.ref (ad 0 0), .int x1] s X Y :=
  Ev.start (by decide +kernel) (Nat.le_of_ble_eq_true rfl) (fun C hC => bX8_end_0  hC k)
set_option maxRecDepth 100000 in
set_option maxHeartbeats 4000000 in
theorem bX8_text_0 {C : ZC} {X : Option Value} {Y : ZS} {s : ZS} (hC : Zok ad D ia C (d + 1) cX8_text 2 RX8 (some .int)) (k : (∃ s1 : ZS, Ev l ad D ia d mX3_begin [.ref (ad 17 0)] s none s1 ∧ Z l ad D ia C X Y 9 [(0, .ref (ad 0 0)), (1, .int 0)] [] s1)) : Z l ad D ia C X Y 0 [(0, .ref (ad 0 0))] [] s := by
  refine Z_aload_n hC dX8_text_0 rfl rfl ?_
  refine Z_get (o := 0) (c := 8) (k := 2) (v := .ref (ad 17 0)) hC rfl zs_8 lkX8_22 rfl dX8_text_1 ?_
  obtain ⟨s1, h2, k⟩ := k
  refine Z_callV (As := []) (rest := []) hC h2 cvX8_86 ⟨3, rfl, zs_3, _, rfl, rfl⟩ rfl rfl (Nat.le_of_ble_eq_true rfl) dX8_text_4 ?_
  refine Z_iconst (v := 0) hC dX8_text_7 rfl ?_
  refine Z_istore_n (V2 := [(1, .int 0), (0, .ref (ad 0 0))]) hC dX8_text_8 rfl (by decide) rfl ?_
  exact Z_pick [1, 0] rfl k
theorem eX8_text {X : Option Value} {Y : ZS} {s : ZS} (k : ∀ C : ZC, Zok ad D ia C (d + 1) cX8_text 2 RX8 (some .int) → (∃ s1 : ZS, Ev l ad D ia d mX3_begin [.ref (ad 17 0)] s none s1 ∧ Z l ad D ia C X Y 9 [(0, .ref (ad 0 0)), (1, .int 0)] [] s1)) : Ev l ad D ia (d + 1) mX8_text [.ref (ad 0 0)] s X Y :=
  Ev.start (by decide +kernel) (Nat.le_of_ble_eq_true rfl) (fun C hC => bX8_text_0  hC (k C hC))
set_option maxRecDepth 100000 in
set_option maxHeartbeats 4000000 in
theorem bX8_text_9 {x1 : Int32} {C : ZC} {X : Option Value} {Y : ZS} {s : ZS} (hC : Zok ad D ia C (d + 1) cX8_text 2 RX8 (some .int)) (k : ((160 ≤ x1 → Z l ad D ia C X Y 39 [(0, .ref (ad 0 0))] [] s) ∧ (¬ 160 ≤ x1 → (∃ (r3 : Int32) (s2 : ZS), Ev l ad D ia d mX3_isAtLine [.ref (ad 17 0)] s (some (.int r3)) s2 ∧ ((r3 = 0 → Z l ad D ia C X Y 39 [(0, .ref (ad 0 0))] [] s2) ∧ (¬ r3 = 0 → (∃ s6 : ZS, Ev l ad D ia d mX3_parseLine [.ref (ad 17 0)] s2 none s6 ∧ Z l ad D ia C X Y 9 [(0, .ref (ad 0 0)), (1, .int (x1 + 1))] [] s6))))))) : Z l ad D ia C X Y 9 [(0, .ref (ad 0 0)), (1, .int x1)] [] s := by
  refine Z_iload_n hC dX8_text_9 rfl rfl ?_
  refine Z_sipush (v := 160) hC dX8_text_10 rfl ?_
  refine Z_icmp_ge (tgt := 39) hC dX8_text_13 (by decide) (fun c1 => ?_) (fun c1 => ?_)
  · have k := k.1 c1
    exact Z_pick [0] rfl k
  · have k := k.2 c1
    refine Z_aload_n hC dX8_text_16 rfl rfl ?_
    refine Z_get (o := 0) (c := 8) (k := 2) (v := .ref (ad 17 0)) hC rfl zs_8 lkX8_22 rfl dX8_text_17 ?_
    obtain ⟨r3, s2, h4, k⟩ := k
    refine Z_callV (As := []) (rest := []) hC h4 cvX8_89 ⟨3, rfl, zs_3, _, rfl, rfl⟩ rfl rfl (Nat.le_of_ble_eq_true rfl) dX8_text_20 ?_
    refine Z_if_eq (tgt := 39) hC dX8_text_23 (by decide) (fun c5 => ?_) (fun c5 => ?_)
    · have k := k.1 c5
      exact Z_pick [0] rfl k
    · have k := k.2 c5
      refine Z_aload_n hC dX8_text_26 rfl rfl ?_
      refine Z_get (o := 0) (c := 8) (k := 2) (v := .ref (ad 17 0)) hC rfl zs_8 lkX8_22 rfl dX8_text_27 ?_
      obtain ⟨s6, h7, k⟩ := k
      refine Z_callV (As := []) (rest := []) hC h7 cvX8_93 ⟨3, rfl, zs_3, _, rfl, rfl⟩ rfl rfl (Nat.le_of_ble_eq_true rfl) dX8_text_30 ?_
      refine Z_iinc (v := x1 + 1) (V2 := [(1, .int (x1 + 1)), (0, .ref (ad 0 0))]) hC dX8_text_33 rfl rfl (by decide) rfl ?_
      refine Z_goto (tgt := 9) hC dX8_text_36 (by decide) ?_
      exact Z_pick [1, 0] rfl k
set_option maxRecDepth 100000 in
set_option maxHeartbeats 4000000 in
theorem bX8_text_39 {C : ZC} {X : Option Value} {Y : ZS} {s : ZS} (hC : Zok ad D ia C (d + 1) cX8_text 2 RX8 (some .int)) (k : (∃ s1 : ZS, Ev l ad D ia d mX3_finish [.ref (ad 17 0)] s none s1 ∧ (∀ s3 : ZS, s3 = stI s1 16 1 0 → (∀ s4 : ZS, s4 = stI s3 0 3 ((s3 17).1 0) → ((((s4 0).1 3) = 0 → (∃ s6 : ZS, Ev l ad D ia d mX0_copyFrom [.ref (ad 1 0), .ref (ad 3 0)] s4 none s6 ∧ (∀ s8 : ZS, s8 = stI s6 7 0 0 → Z l ad D ia C X Y 110 [(0, .ref (ad 0 0)), (1, .int 0)] [] s8))) ∧ (¬ ((s4 0).1 3) = 0 → (X = some (.int (((-10)) - ((s4 17).1 1))) ∧ Y = s4))))))) : Z l ad D ia C X Y 39 [(0, .ref (ad 0 0))] [] s := by
  refine Z_aload_n hC dX8_text_39 rfl rfl ?_
  refine Z_get (o := 0) (c := 8) (k := 2) (v := .ref (ad 17 0)) hC rfl zs_8 lkX8_22 rfl dX8_text_40 ?_
  obtain ⟨s1, h2, k⟩ := k
  refine Z_callV (As := []) (rest := []) hC h2 cvX8_96 ⟨3, rfl, zs_3, _, rfl, rfl⟩ rfl rfl (Nat.le_of_ble_eq_true rfl) dX8_text_43 ?_
  refine Z_aload_n hC dX8_text_46 rfl rfl ?_
  refine Z_get (o := 0) (c := 8) (k := 2) (v := .ref (ad 17 0)) hC rfl zs_8 lkX8_22 rfl dX8_text_47 ?_
  refine Z_get (o := 17) (c := 3) (k := 4) (v := .ref (ad 16 0)) hC rfl zs_3 lkX8_72 rfl dX8_text_50 ?_
  refine Z_iconst (v := 0) hC dX8_text_53 rfl ?_
  refine Z_putI (o := 16) (k := 1) hC rfl zs_7 pkX8_76 rfl rfl (hsX7_1 _ _ _) dX8_text_54 (fun s3 es3 => ?_)
  have k := k s3 es3
  refine Z_aload_n hC dX8_text_57 rfl rfl ?_
  refine Z_aload_n hC dX8_text_58 rfl rfl ?_
  refine Z_get (o := 0) (c := 8) (k := 2) (v := .ref (ad 17 0)) hC rfl zs_8 lkX8_22 rfl dX8_text_59 ?_
  refine Z_get (o := 17) (c := 3) (k := 0) (v := .int ((s3 17).1 0)) hC rfl zs_3 lkX8_99 rfl dX8_text_62 ?_
  refine Z_putI (o := 0) (k := 3) hC rfl zs_8 pkX8_102 rfl rfl (hsX8_3 _ _ _) dX8_text_65 (fun s4 es4 => ?_)
  have k := k s4 es4
  refine Z_aload_n hC dX8_text_68 rfl rfl ?_
  refine Z_get (o := 0) (c := 8) (k := 3) (v := .int ((s4 0).1 3)) hC rfl zs_8 lkX8_102 rfl dX8_text_69 ?_
  refine Z_if_eq (tgt := 86) hC dX8_text_72 (by decide) (fun c5 => ?_) (fun c5 => ?_)
  · have k := k.1 c5
    refine Z_aload_n hC dX8_text_86 rfl rfl ?_
    refine Z_get (o := 0) (c := 8) (k := 0) (v := .ref (ad 1 0)) hC rfl zs_8 lkX8_10 rfl dX8_text_87 ?_
    refine Z_aload_n hC dX8_text_90 rfl rfl ?_
    refine Z_get (o := 0) (c := 8) (k := 2) (v := .ref (ad 17 0)) hC rfl zs_8 lkX8_22 rfl dX8_text_91 ?_
    refine Z_get (o := 17) (c := 3) (k := 5) (v := .ref (ad 3 0)) hC rfl zs_3 lkX8_108 rfl dX8_text_94 ?_
    obtain ⟨s6, h7, k⟩ := k
    refine Z_callV (As := [.ref (ad 3 0)]) (rest := []) hC h7 cvX8_109 ⟨0, rfl, zs_0, _, rfl, rfl⟩ rfl rfl (Nat.le_of_ble_eq_true rfl) dX8_text_97 ?_
    refine Z_aload_n hC dX8_text_100 rfl rfl ?_
    refine Z_get (o := 0) (c := 8) (k := 4) (v := .ref (ad 7 0)) hC rfl zs_8 lkX8_29 rfl dX8_text_101 ?_
    refine Z_iconst (v := 0) hC dX8_text_104 rfl ?_
    refine Z_putI (o := 7) (k := 0) hC rfl zs_6 pkX8_113 rfl rfl (hsX6_0 _ _ _) dX8_text_105 (fun s8 es8 => ?_)
    have k := k s8 es8
    refine Z_iconst (v := 0) hC dX8_text_108 rfl ?_
    refine Z_istore_n (V2 := [(1, .int 0), (0, .ref (ad 0 0))]) hC dX8_text_109 rfl (by decide) rfl ?_
    exact Z_pick [1, 0] rfl k
  · have k := k.2 c5
    refine Z_bipush (v := (-10)) hC dX8_text_75 rfl ?_
    refine Z_aload_n hC dX8_text_77 rfl rfl ?_
    refine Z_get (o := 0) (c := 8) (k := 2) (v := .ref (ad 17 0)) hC rfl zs_8 lkX8_22 rfl dX8_text_78 ?_
    refine Z_get (o := 17) (c := 3) (k := 1) (v := .int ((s4 17).1 1)) hC rfl zs_3 lkX8_105 rfl dX8_text_81 ?_
    refine Z_isub hC dX8_text_84 ?_
    exact Z_iret hC dX8_text_85 k.1 k.2
set_option maxRecDepth 100000 in
set_option maxHeartbeats 4000000 in
theorem bX8_text_110 {x1 : Int32} {C : ZC} {X : Option Value} {Y : ZS} {s : ZS} (hC : Zok ad D ia C (d + 1) cX8_text 2 RX8 (some .int)) (k : ((2 ≤ x1 → (X = some (.int ((s 17).1 2)) ∧ Y = s)) ∧ (¬ 2 ≤ x1 → (vp_in x1 2 ∧ (zcls (10 + x1.toNatClampNeg) = 1 ∧ (∀ s4 : ZS, s4 = stI s (10 + x1.toNatClampNeg) 0 0 → Z l ad D ia C X Y 110 [(0, .ref (ad 0 0)), (1, .int (x1 + 1))] [] s4)))))) : Z l ad D ia C X Y 110 [(0, .ref (ad 0 0)), (1, .int x1)] [] s := by
  refine Z_iload_n hC dX8_text_110 rfl rfl ?_
  refine Z_iconst (v := 2) hC dX8_text_111 rfl ?_
  refine Z_icmp_ge (tgt := 131) hC dX8_text_112 (by decide) (fun c1 => ?_) (fun c1 => ?_)
  · have k := k.1 c1
    refine Z_aload_n hC dX8_text_131 rfl rfl ?_
    refine Z_get (o := 0) (c := 8) (k := 2) (v := .ref (ad 17 0)) hC rfl zs_8 lkX8_22 rfl dX8_text_132 ?_
    refine Z_get (o := 17) (c := 3) (k := 2) (v := .int ((s 17).1 2)) hC rfl zs_3 lkX8_120 rfl dX8_text_135 ?_
    exact Z_iret hC dX8_text_138 k.1 k.2
  · have k := k.2 c1
    refine Z_aload_n hC dX8_text_115 rfl rfl ?_
    refine Z_get (o := 0) (c := 8) (k := 5) (v := .ref (ad 0 6)) hC rfl zs_8 lkX8_35 rfl dX8_text_116 ?_
    refine Z_iload_n hC dX8_text_119 rfl rfl ?_
    obtain ⟨h2, k⟩ := k
    refine Z_aaldM hC h2 dX8_text_120 ?_
    obtain ⟨h3, k⟩ := k
    refine Z_iconst (v := 0) hC dX8_text_121 rfl ?_
    refine Z_putI (o := 10 + x1.toNatClampNeg) (k := 0) hC h3 zs_1 pkX8_116 rfl rfl (hsX1_0 _ _ _) dX8_text_122 (fun s4 es4 => ?_)
    have k := k s4 es4
    refine Z_iinc (v := x1 + 1) (V2 := [(1, .int (x1 + 1)), (0, .ref (ad 0 0))]) hC dX8_text_125 rfl rfl (by decide) rfl ?_
    refine Z_goto (tgt := 110) hC dX8_text_128 (by decide) ?_
    exact Z_pick [1, 0] rfl k
set_option maxRecDepth 100000 in
set_option maxHeartbeats 4000000 in
theorem bX8_fault_0 {C : ZC} {X : Option Value} {Y : ZS} {s : ZS} (hC : Zok ad D ia C d cX8_fault 1 RX8 (some .int)) (k : (X = some (.int ((s 0).1 3)) ∧ Y = s)) : Z l ad D ia C X Y 0 [(0, .ref (ad 0 0))] [] s := by
  refine Z_aload_n hC dX8_fault_0 rfl rfl ?_
  refine Z_get (o := 0) (c := 8) (k := 3) (v := .int ((s 0).1 3)) hC rfl zs_8 lkX8_102 rfl dX8_fault_1 ?_
  exact Z_iret hC dX8_fault_4 k.1 k.2
theorem eX8_fault {X : Option Value} {Y : ZS} {s : ZS} (k : (X = some (.int ((s 0).1 3)) ∧ Y = s)) : Ev l ad D ia d mX8_fault [.ref (ad 0 0)] s X Y :=
  Ev.start (by decide +kernel) (Nat.le_of_ble_eq_true rfl) (fun C hC => bX8_fault_0  hC k)
set_option maxRecDepth 100000 in
set_option maxHeartbeats 4000000 in
theorem bX8_rule_0 {x1 : Int32} {C : ZC} {X : Option Value} {Y : ZS} {s : ZS} (hC : Zok ad D ia C (d + 1) cX8_rule 2 RX8 (some .int)) (k : ((x1 = 0 → (X = some (.int ((s 1).1 0)) ∧ Y = s)) ∧ (x1 = 1 → (X = some (.int ((s 1).1 4)) ∧ Y = s)) ∧ (x1 = 2 → (X = some (.int ((s 1).1 9)) ∧ Y = s)) ∧ (x1 = 3 → (X = some (.int ((s 1).1 10)) ∧ Y = s)) ∧ (x1 = 4 → (X = some (.int ((s 1).1 11)) ∧ Y = s)) ∧ (x1 = 5 → (∃ (r8 : Int32) (s7 : ZS), Ev l ad D ia d mX0_whoAreDone [.ref (ad 1 0)] s (some (.int r8)) s7 ∧ (X = some (.int r8) ∧ Y = s7))) ∧ ((¬ x1 = 0 ∧ ¬ x1 = 1 ∧ ¬ x1 = 2 ∧ ¬ x1 = 3 ∧ ¬ x1 = 4 ∧ ¬ x1 = 5) → (X = some (.int ((-1))) ∧ Y = s)))) : Z l ad D ia C X Y 0 [(0, .ref (ad 0 0)), (1, .int x1)] [] s := by
  refine Z_iload_n hC dX8_rule_0 rfl rfl ?_
  by_cases c1 : x1 = 0
  · have c1x : (x1).toInt = 0 := by rw [c1]; rfl
    have k := k.1 c1
    refine Z_tabIn (tgt := 40) hC dX8_rule_1 (by omega) (by omega) (by rw [c1x]; rfl) (by decide) ?_
    refine Z_aload_n hC dX8_rule_40 rfl rfl ?_
    refine Z_get (o := 0) (c := 8) (k := 0) (v := .ref (ad 1 0)) hC rfl zs_8 lkX8_10 rfl dX8_rule_41 ?_
    refine Z_get (o := 1) (c := 0) (k := 0) (v := .int ((s 1).1 0)) hC rfl zs_0 lkX8_123 rfl dX8_rule_44 ?_
    exact Z_iret hC dX8_rule_47 k.1 k.2
  by_cases c2 : x1 = 1
  · have c2x : (x1).toInt = 1 := by rw [c2]; rfl
    have k := k.2.1 c2
    refine Z_tabIn (tgt := 48) hC dX8_rule_1 (by omega) (by omega) (by rw [c2x]; rfl) (by decide) ?_
    refine Z_aload_n hC dX8_rule_48 rfl rfl ?_
    refine Z_get (o := 0) (c := 8) (k := 0) (v := .ref (ad 1 0)) hC rfl zs_8 lkX8_10 rfl dX8_rule_49 ?_
    refine Z_get (o := 1) (c := 0) (k := 4) (v := .int ((s 1).1 4)) hC rfl zs_0 lkX8_126 rfl dX8_rule_52 ?_
    exact Z_iret hC dX8_rule_55 k.1 k.2
  by_cases c3 : x1 = 2
  · have c3x : (x1).toInt = 2 := by rw [c3]; rfl
    have k := k.2.2.1 c3
    refine Z_tabIn (tgt := 56) hC dX8_rule_1 (by omega) (by omega) (by rw [c3x]; rfl) (by decide) ?_
    refine Z_aload_n hC dX8_rule_56 rfl rfl ?_
    refine Z_get (o := 0) (c := 8) (k := 0) (v := .ref (ad 1 0)) hC rfl zs_8 lkX8_10 rfl dX8_rule_57 ?_
    refine Z_get (o := 1) (c := 0) (k := 9) (v := .int ((s 1).1 9)) hC rfl zs_0 lkX8_129 rfl dX8_rule_60 ?_
    exact Z_iret hC dX8_rule_63 k.1 k.2
  by_cases c4 : x1 = 3
  · have c4x : (x1).toInt = 3 := by rw [c4]; rfl
    have k := k.2.2.2.1 c4
    refine Z_tabIn (tgt := 64) hC dX8_rule_1 (by omega) (by omega) (by rw [c4x]; rfl) (by decide) ?_
    refine Z_aload_n hC dX8_rule_64 rfl rfl ?_
    refine Z_get (o := 0) (c := 8) (k := 0) (v := .ref (ad 1 0)) hC rfl zs_8 lkX8_10 rfl dX8_rule_65 ?_
    refine Z_get (o := 1) (c := 0) (k := 10) (v := .int ((s 1).1 10)) hC rfl zs_0 lkX8_132 rfl dX8_rule_68 ?_
    exact Z_iret hC dX8_rule_71 k.1 k.2
  by_cases c5 : x1 = 4
  · have c5x : (x1).toInt = 4 := by rw [c5]; rfl
    have k := k.2.2.2.2.1 c5
    refine Z_tabIn (tgt := 72) hC dX8_rule_1 (by omega) (by omega) (by rw [c5x]; rfl) (by decide) ?_
    refine Z_aload_n hC dX8_rule_72 rfl rfl ?_
    refine Z_get (o := 0) (c := 8) (k := 0) (v := .ref (ad 1 0)) hC rfl zs_8 lkX8_10 rfl dX8_rule_73 ?_
    refine Z_get (o := 1) (c := 0) (k := 11) (v := .int ((s 1).1 11)) hC rfl zs_0 lkX8_135 rfl dX8_rule_76 ?_
    exact Z_iret hC dX8_rule_79 k.1 k.2
  by_cases c6 : x1 = 5
  · have c6x : (x1).toInt = 5 := by rw [c6]; rfl
    have k := k.2.2.2.2.2.1 c6
    refine Z_tabIn (tgt := 80) hC dX8_rule_1 (by omega) (by omega) (by rw [c6x]; rfl) (by decide) ?_
    refine Z_aload_n hC dX8_rule_80 rfl rfl ?_
    refine Z_get (o := 0) (c := 8) (k := 0) (v := .ref (ad 1 0)) hC rfl zs_8 lkX8_10 rfl dX8_rule_81 ?_
    obtain ⟨r8, s7, h9, k⟩ := k
    refine Z_callV (As := []) (rest := []) hC h9 cvX8_138 ⟨0, rfl, zs_0, _, rfl, rfl⟩ rfl rfl (Nat.le_of_ble_eq_true rfl) dX8_rule_84 ?_
    exact Z_iret hC dX8_rule_87 k.1 k.2
  have k := k.2.2.2.2.2.2 ⟨c1, c2, c3, c4, c5, c6⟩
  have z10 : (x1).toInt < 0 ∨ 5 < (x1).toInt := by
    apply tab_out
    intro z h1 h2
    rcases (show z = 0 ∨ z = 1 ∨ z = 2 ∨ z = 3 ∨ z = 4 ∨ z = 5 by omega) with rfl | rfl | rfl | rfl | rfl | rfl
    · exact fun e => c1 (Int32.toInt_inj.mp (show (x1).toInt = ((0 : Int32)).toInt from e))
    · exact fun e => c2 (Int32.toInt_inj.mp (show (x1).toInt = ((1 : Int32)).toInt from e))
    · exact fun e => c3 (Int32.toInt_inj.mp (show (x1).toInt = ((2 : Int32)).toInt from e))
    · exact fun e => c4 (Int32.toInt_inj.mp (show (x1).toInt = ((3 : Int32)).toInt from e))
    · exact fun e => c5 (Int32.toInt_inj.mp (show (x1).toInt = ((4 : Int32)).toInt from e))
    · exact fun e => c6 (Int32.toInt_inj.mp (show (x1).toInt = ((5 : Int32)).toInt from e))
  refine Z_tabOut (tgt := 88) hC dX8_rule_1 z10 (by decide) ?_
  refine Z_iconst (v := (-1)) hC dX8_rule_88 rfl ?_
  exact Z_iret hC dX8_rule_89 k.1 k.2
theorem eX8_rule {x1 : Int32} {X : Option Value} {Y : ZS} {s : ZS} (k : ((x1 = 0 → (X = some (.int ((s 1).1 0)) ∧ Y = s)) ∧ (x1 = 1 → (X = some (.int ((s 1).1 4)) ∧ Y = s)) ∧ (x1 = 2 → (X = some (.int ((s 1).1 9)) ∧ Y = s)) ∧ (x1 = 3 → (X = some (.int ((s 1).1 10)) ∧ Y = s)) ∧ (x1 = 4 → (X = some (.int ((s 1).1 11)) ∧ Y = s)) ∧ (x1 = 5 → (∃ (r8 : Int32) (s7 : ZS), Ev l ad D ia d mX0_whoAreDone [.ref (ad 1 0)] s (some (.int r8)) s7 ∧ (X = some (.int r8) ∧ Y = s7))) ∧ ((¬ x1 = 0 ∧ ¬ x1 = 1 ∧ ¬ x1 = 2 ∧ ¬ x1 = 3 ∧ ¬ x1 = 4 ∧ ¬ x1 = 5) → (X = some (.int ((-1))) ∧ Y = s)))) : Ev l ad D ia (d + 1) mX8_rule [.ref (ad 0 0), .int x1] s X Y :=
  Ev.start (by decide +kernel) (Nat.le_of_ble_eq_true rfl) (fun C hC => bX8_rule_0  hC k)
set_option maxRecDepth 100000 in
set_option maxHeartbeats 4000000 in
theorem bX8_book_0 {x1 : Int32} {x2 : Int32} {C : ZC} {X : Option Value} {Y : ZS} {s : ZS} (hC : Zok ad D ia C (d + 1) cX8_book 3 RX8 (some .int)) (k : (∃ (r2 : Int32) (s1 : ZS), Ev l ad D ia d mX0_hasBook [.ref (ad 1 0), .int x1] s (some (.int r2)) s1 ∧ ((¬ r2 = 0 → ((x2 = 0 → (vp_in x1 8 ∧ (X = some (.int ((s1 1).2.2 1 x1.toNatClampNeg)) ∧ Y = s1))) ∧ (x2 = 1 → (vp_in x1 8 ∧ (X = some (.int ((s1 1).2.2 2 x1.toNatClampNeg)) ∧ Y = s1))) ∧ (x2 = 2 → (vp_in x1 8 ∧ (X = some (.int ((s1 1).2.2 3 x1.toNatClampNeg)) ∧ Y = s1))) ∧ (x2 = 3 → (∃ (r13 : Int32) (s12 : ZS), Ev l ad D ia d mX0_whoHad [.ref (ad 1 0), .int x1] s1 (some (.int r13)) s12 ∧ (X = some (.int r13) ∧ Y = s12))) ∧ ((¬ x2 = 0 ∧ ¬ x2 = 1 ∧ ¬ x2 = 2 ∧ ¬ x2 = 3) → (X = some (.int ((-1))) ∧ Y = s1)))) ∧ (r2 = 0 → (X = some (.int ((-1))) ∧ Y = s1))))) : Z l ad D ia C X Y 0 [(0, .ref (ad 0 0)), (1, .int x1), (2, .int x2)] [] s := by
  refine Z_aload_n hC dX8_book_0 rfl rfl ?_
  refine Z_get (o := 0) (c := 8) (k := 0) (v := .ref (ad 1 0)) hC rfl zs_8 lkX8_10 rfl dX8_book_1 ?_
  refine Z_iload_n hC dX8_book_4 rfl rfl ?_
  obtain ⟨r2, s1, h3, k⟩ := k
  refine Z_callV (As := [.int x1]) (rest := []) hC h3 cvX8_142 ⟨0, rfl, zs_0, _, rfl, rfl⟩ rfl rfl (Nat.le_of_ble_eq_true rfl) dX8_book_5 ?_
  refine Z_if_ne (tgt := 13) hC dX8_book_8 (by decide) (fun c4 => ?_) (fun c4 => ?_)
  · have k := k.1 c4
    refine Z_iload_n hC dX8_book_13 rfl rfl ?_
    by_cases c5 : x2 = 0
    · have c5x : (x2).toInt = 0 := by rw [c5]; rfl
      have k := k.1 c5
      refine Z_tabIn (tgt := 44) hC dX8_book_14 (by omega) (by omega) (by rw [c5x]; rfl) (by decide) ?_
      refine Z_aload_n hC dX8_book_44 rfl rfl ?_
      refine Z_get (o := 0) (c := 8) (k := 0) (v := .ref (ad 1 0)) hC rfl zs_8 lkX8_10 rfl dX8_book_45 ?_
      refine Z_get (o := 1) (c := 0) (k := 1) (v := .ref (ad 1 2)) hC rfl zs_0 lkX8_146 rfl dX8_book_48 ?_
      refine Z_iload_n hC dX8_book_51 rfl rfl ?_
      obtain ⟨h6, k⟩ := k
      refine Z_iald (o := 1) (k := 1) hC (zis_of rfl rfl) h6 dX8_book_52 ?_
      exact Z_iret hC dX8_book_53 k.1 k.2
    by_cases c7 : x2 = 1
    · have c7x : (x2).toInt = 1 := by rw [c7]; rfl
      have k := k.2.1 c7
      refine Z_tabIn (tgt := 54) hC dX8_book_14 (by omega) (by omega) (by rw [c7x]; rfl) (by decide) ?_
      refine Z_aload_n hC dX8_book_54 rfl rfl ?_
      refine Z_get (o := 0) (c := 8) (k := 0) (v := .ref (ad 1 0)) hC rfl zs_8 lkX8_10 rfl dX8_book_55 ?_
      refine Z_get (o := 1) (c := 0) (k := 2) (v := .ref (ad 1 3)) hC rfl zs_0 lkX8_149 rfl dX8_book_58 ?_
      refine Z_iload_n hC dX8_book_61 rfl rfl ?_
      obtain ⟨h8, k⟩ := k
      refine Z_iald (o := 1) (k := 2) hC (zis_of rfl rfl) h8 dX8_book_62 ?_
      exact Z_iret hC dX8_book_63 k.1 k.2
    by_cases c9 : x2 = 2
    · have c9x : (x2).toInt = 2 := by rw [c9]; rfl
      have k := k.2.2.1 c9
      refine Z_tabIn (tgt := 64) hC dX8_book_14 (by omega) (by omega) (by rw [c9x]; rfl) (by decide) ?_
      refine Z_aload_n hC dX8_book_64 rfl rfl ?_
      refine Z_get (o := 0) (c := 8) (k := 0) (v := .ref (ad 1 0)) hC rfl zs_8 lkX8_10 rfl dX8_book_65 ?_
      refine Z_get (o := 1) (c := 0) (k := 3) (v := .ref (ad 1 4)) hC rfl zs_0 lkX8_152 rfl dX8_book_68 ?_
      refine Z_iload_n hC dX8_book_71 rfl rfl ?_
      obtain ⟨h10, k⟩ := k
      refine Z_iald (o := 1) (k := 3) hC (zis_of rfl rfl) h10 dX8_book_72 ?_
      exact Z_iret hC dX8_book_73 k.1 k.2
    by_cases c11 : x2 = 3
    · have c11x : (x2).toInt = 3 := by rw [c11]; rfl
      have k := k.2.2.2.1 c11
      refine Z_tabIn (tgt := 74) hC dX8_book_14 (by omega) (by omega) (by rw [c11x]; rfl) (by decide) ?_
      refine Z_aload_n hC dX8_book_74 rfl rfl ?_
      refine Z_get (o := 0) (c := 8) (k := 0) (v := .ref (ad 1 0)) hC rfl zs_8 lkX8_10 rfl dX8_book_75 ?_
      refine Z_iload_n hC dX8_book_78 rfl rfl ?_
      obtain ⟨r13, s12, h14, k⟩ := k
      refine Z_callV (As := [.int x1]) (rest := []) hC h14 cvX8_155 ⟨0, rfl, zs_0, _, rfl, rfl⟩ rfl rfl (Nat.le_of_ble_eq_true rfl) dX8_book_79 ?_
      exact Z_iret hC dX8_book_82 k.1 k.2
    have k := k.2.2.2.2 ⟨c5, c7, c9, c11⟩
    have z15 : (x2).toInt < 0 ∨ 3 < (x2).toInt := by
      apply tab_out
      intro z h1 h2
      rcases (show z = 0 ∨ z = 1 ∨ z = 2 ∨ z = 3 by omega) with rfl | rfl | rfl | rfl
      · exact fun e => c5 (Int32.toInt_inj.mp (show (x2).toInt = ((0 : Int32)).toInt from e))
      · exact fun e => c7 (Int32.toInt_inj.mp (show (x2).toInt = ((1 : Int32)).toInt from e))
      · exact fun e => c9 (Int32.toInt_inj.mp (show (x2).toInt = ((2 : Int32)).toInt from e))
      · exact fun e => c11 (Int32.toInt_inj.mp (show (x2).toInt = ((3 : Int32)).toInt from e))
    refine Z_tabOut (tgt := 83) hC dX8_book_14 z15 (by decide) ?_
    refine Z_iconst (v := (-1)) hC dX8_book_83 rfl ?_
    exact Z_iret hC dX8_book_84 k.1 k.2
  · have k := k.2 c4
    refine Z_iconst (v := (-1)) hC dX8_book_11 rfl ?_
    exact Z_iret hC dX8_book_12 k.1 k.2
theorem eX8_book {x1 : Int32} {x2 : Int32} {X : Option Value} {Y : ZS} {s : ZS} (k : (∃ (r2 : Int32) (s1 : ZS), Ev l ad D ia d mX0_hasBook [.ref (ad 1 0), .int x1] s (some (.int r2)) s1 ∧ ((¬ r2 = 0 → ((x2 = 0 → (vp_in x1 8 ∧ (X = some (.int ((s1 1).2.2 1 x1.toNatClampNeg)) ∧ Y = s1))) ∧ (x2 = 1 → (vp_in x1 8 ∧ (X = some (.int ((s1 1).2.2 2 x1.toNatClampNeg)) ∧ Y = s1))) ∧ (x2 = 2 → (vp_in x1 8 ∧ (X = some (.int ((s1 1).2.2 3 x1.toNatClampNeg)) ∧ Y = s1))) ∧ (x2 = 3 → (∃ (r13 : Int32) (s12 : ZS), Ev l ad D ia d mX0_whoHad [.ref (ad 1 0), .int x1] s1 (some (.int r13)) s12 ∧ (X = some (.int r13) ∧ Y = s12))) ∧ ((¬ x2 = 0 ∧ ¬ x2 = 1 ∧ ¬ x2 = 2 ∧ ¬ x2 = 3) → (X = some (.int ((-1))) ∧ Y = s1)))) ∧ (r2 = 0 → (X = some (.int ((-1))) ∧ Y = s1))))) : Ev l ad D ia (d + 1) mX8_book [.ref (ad 0 0), .int x1, .int x2] s X Y :=
  Ev.start (by decide +kernel) (Nat.le_of_ble_eq_true rfl) (fun C hC => bX8_book_0  hC k)
set_option maxRecDepth 100000 in
set_option maxHeartbeats 4000000 in
theorem bX8_reader_0 {x1 : Int32} {x2 : Int32} {C : ZC} {X : Option Value} {Y : ZS} {s : ZS} (hC : Zok ad D ia C (d + 1) cX8_reader 3 RX8 (some .int)) (k : (∃ (r2 : Int32) (s1 : ZS), Ev l ad D ia d mX0_hasReader [.ref (ad 1 0), .int x1] s (some (.int r2)) s1 ∧ ((¬ r2 = 0 → ((x2 = 0 → (vp_in x1 4 ∧ (X = some (.int ((s1 1).2.2 5 x1.toNatClampNeg)) ∧ Y = s1))) ∧ (x2 = 1 → (vp_in x1 4 ∧ (X = some (.int ((s1 1).2.2 6 x1.toNatClampNeg)) ∧ Y = s1))) ∧ (x2 = 2 → (vp_in x1 4 ∧ (X = some (.int ((s1 1).2.2 7 x1.toNatClampNeg)) ∧ Y = s1))) ∧ (x2 = 3 → (vp_in x1 4 ∧ (X = some (.int ((s1 1).2.2 8 x1.toNatClampNeg)) ∧ Y = s1))) ∧ (x2 = 4 → (∃ (r15 : Int32) (s14 : ZS), Ev l ad D ia d mX0_isDone [.ref (ad 1 0), .int x1] s1 (some (.int r15)) s14 ∧ ((r15 = 0 → (vp_in x1 4 ∧ (∃ (r20 : Int32) (s19 : ZS), Ev l ad D ia d mX0_minutesFor [.ref (ad 1 0), .int x1, .int ((s14 1).2.2 6 x1.toNatClampNeg)] s14 (some (.int r20)) s19 ∧ (X = some (.int r20) ∧ Y = s19)))) ∧ (¬ r15 = 0 → (X = some (.int ((-4))) ∧ Y = s14))))) ∧ (x2 = 5 → (∃ (r24 : Int32) (s23 : ZS), Ev l ad D ia d mX0_isDone [.ref (ad 1 0), .int x1] s1 (some (.int r24)) s23 ∧ ((r24 = 0 → (vp_in x1 4 ∧ (∃ (r29 : Int32) (s28 : ZS), Ev l ad D ia d mX0_dizzyBy [.ref (ad 1 0), .int x1, .int ((s23 1).2.2 6 x1.toNatClampNeg)] s23 (some (.int r29)) s28 ∧ (X = some (.int r29) ∧ Y = s28)))) ∧ (¬ r24 = 0 → (X = some (.int ((-4))) ∧ Y = s23))))) ∧ ((¬ x2 = 0 ∧ ¬ x2 = 1 ∧ ¬ x2 = 2 ∧ ¬ x2 = 3 ∧ ¬ x2 = 4 ∧ ¬ x2 = 5) → (X = some (.int ((-1))) ∧ Y = s1)))) ∧ (r2 = 0 → (X = some (.int ((-1))) ∧ Y = s1))))) : Z l ad D ia C X Y 0 [(0, .ref (ad 0 0)), (1, .int x1), (2, .int x2)] [] s := by
  refine Z_aload_n hC dX8_reader_0 rfl rfl ?_
  refine Z_get (o := 0) (c := 8) (k := 0) (v := .ref (ad 1 0)) hC rfl zs_8 lkX8_10 rfl dX8_reader_1 ?_
  refine Z_iload_n hC dX8_reader_4 rfl rfl ?_
  obtain ⟨r2, s1, h3, k⟩ := k
  refine Z_callV (As := [.int x1]) (rest := []) hC h3 cvX8_159 ⟨0, rfl, zs_0, _, rfl, rfl⟩ rfl rfl (Nat.le_of_ble_eq_true rfl) dX8_reader_5 ?_
  refine Z_if_ne (tgt := 13) hC dX8_reader_8 (by decide) (fun c4 => ?_) (fun c4 => ?_)
  · have k := k.1 c4
    refine Z_iload_n hC dX8_reader_13 rfl rfl ?_
    by_cases c5 : x2 = 0
    · have c5x : (x2).toInt = 0 := by rw [c5]; rfl
      have k := k.1 c5
      refine Z_tabIn (tgt := 52) hC dX8_reader_14 (by omega) (by omega) (by rw [c5x]; rfl) (by decide) ?_
      refine Z_aload_n hC dX8_reader_52 rfl rfl ?_
      refine Z_get (o := 0) (c := 8) (k := 0) (v := .ref (ad 1 0)) hC rfl zs_8 lkX8_10 rfl dX8_reader_53 ?_
      refine Z_get (o := 1) (c := 0) (k := 5) (v := .ref (ad 1 6)) hC rfl zs_0 lkX8_162 rfl dX8_reader_56 ?_
      refine Z_iload_n hC dX8_reader_59 rfl rfl ?_
      obtain ⟨h6, k⟩ := k
      refine Z_iald (o := 1) (k := 5) hC (zis_of rfl rfl) h6 dX8_reader_60 ?_
      exact Z_iret hC dX8_reader_61 k.1 k.2
    by_cases c7 : x2 = 1
    · have c7x : (x2).toInt = 1 := by rw [c7]; rfl
      have k := k.2.1 c7
      refine Z_tabIn (tgt := 62) hC dX8_reader_14 (by omega) (by omega) (by rw [c7x]; rfl) (by decide) ?_
      refine Z_aload_n hC dX8_reader_62 rfl rfl ?_
      refine Z_get (o := 0) (c := 8) (k := 0) (v := .ref (ad 1 0)) hC rfl zs_8 lkX8_10 rfl dX8_reader_63 ?_
      refine Z_get (o := 1) (c := 0) (k := 6) (v := .ref (ad 1 7)) hC rfl zs_0 lkX8_165 rfl dX8_reader_66 ?_
      refine Z_iload_n hC dX8_reader_69 rfl rfl ?_
      obtain ⟨h8, k⟩ := k
      refine Z_iald (o := 1) (k := 6) hC (zis_of rfl rfl) h8 dX8_reader_70 ?_
      exact Z_iret hC dX8_reader_71 k.1 k.2
    by_cases c9 : x2 = 2
    · have c9x : (x2).toInt = 2 := by rw [c9]; rfl
      have k := k.2.2.1 c9
      refine Z_tabIn (tgt := 72) hC dX8_reader_14 (by omega) (by omega) (by rw [c9x]; rfl) (by decide) ?_
      refine Z_aload_n hC dX8_reader_72 rfl rfl ?_
      refine Z_get (o := 0) (c := 8) (k := 0) (v := .ref (ad 1 0)) hC rfl zs_8 lkX8_10 rfl dX8_reader_73 ?_
      refine Z_get (o := 1) (c := 0) (k := 7) (v := .ref (ad 1 8)) hC rfl zs_0 lkX8_168 rfl dX8_reader_76 ?_
      refine Z_iload_n hC dX8_reader_79 rfl rfl ?_
      obtain ⟨h10, k⟩ := k
      refine Z_iald (o := 1) (k := 7) hC (zis_of rfl rfl) h10 dX8_reader_80 ?_
      exact Z_iret hC dX8_reader_81 k.1 k.2
    by_cases c11 : x2 = 3
    · have c11x : (x2).toInt = 3 := by rw [c11]; rfl
      have k := k.2.2.2.1 c11
      refine Z_tabIn (tgt := 82) hC dX8_reader_14 (by omega) (by omega) (by rw [c11x]; rfl) (by decide) ?_
      refine Z_aload_n hC dX8_reader_82 rfl rfl ?_
      refine Z_get (o := 0) (c := 8) (k := 0) (v := .ref (ad 1 0)) hC rfl zs_8 lkX8_10 rfl dX8_reader_83 ?_
      refine Z_get (o := 1) (c := 0) (k := 8) (v := .ref (ad 1 9)) hC rfl zs_0 lkX8_171 rfl dX8_reader_86 ?_
      refine Z_iload_n hC dX8_reader_89 rfl rfl ?_
      obtain ⟨h12, k⟩ := k
      refine Z_iald (o := 1) (k := 8) hC (zis_of rfl rfl) h12 dX8_reader_90 ?_
      exact Z_iret hC dX8_reader_91 k.1 k.2
    by_cases c13 : x2 = 4
    · have c13x : (x2).toInt = 4 := by rw [c13]; rfl
      have k := k.2.2.2.2.1 c13
      refine Z_tabIn (tgt := 92) hC dX8_reader_14 (by omega) (by omega) (by rw [c13x]; rfl) (by decide) ?_
      refine Z_aload_n hC dX8_reader_92 rfl rfl ?_
      refine Z_get (o := 0) (c := 8) (k := 0) (v := .ref (ad 1 0)) hC rfl zs_8 lkX8_10 rfl dX8_reader_93 ?_
      refine Z_iload_n hC dX8_reader_96 rfl rfl ?_
      obtain ⟨r15, s14, h16, k⟩ := k
      refine Z_callV (As := [.int x1]) (rest := []) hC h16 cvX8_174 ⟨0, rfl, zs_0, _, rfl, rfl⟩ rfl rfl (Nat.le_of_ble_eq_true rfl) dX8_reader_97 ?_
      refine Z_if_eq (tgt := 108) hC dX8_reader_100 (by decide) (fun c17 => ?_) (fun c17 => ?_)
      · have k := k.1 c17
        refine Z_aload_n hC dX8_reader_108 rfl rfl ?_
        refine Z_get (o := 0) (c := 8) (k := 0) (v := .ref (ad 1 0)) hC rfl zs_8 lkX8_10 rfl dX8_reader_109 ?_
        refine Z_iload_n hC dX8_reader_112 rfl rfl ?_
        refine Z_aload_n hC dX8_reader_113 rfl rfl ?_
        refine Z_get (o := 0) (c := 8) (k := 0) (v := .ref (ad 1 0)) hC rfl zs_8 lkX8_10 rfl dX8_reader_114 ?_
        refine Z_get (o := 1) (c := 0) (k := 6) (v := .ref (ad 1 7)) hC rfl zs_0 lkX8_165 rfl dX8_reader_117 ?_
        refine Z_iload_n hC dX8_reader_120 rfl rfl ?_
        obtain ⟨h18, k⟩ := k
        refine Z_iald (o := 1) (k := 6) hC (zis_of rfl rfl) h18 dX8_reader_121 ?_
        obtain ⟨r20, s19, h21, k⟩ := k
        refine Z_callV (As := [.int x1, .int ((s14 1).2.2 6 x1.toNatClampNeg)]) (rest := []) hC h21 cvX8_177 ⟨0, rfl, zs_0, _, rfl, rfl⟩ rfl rfl (Nat.le_of_ble_eq_true rfl) dX8_reader_122 ?_
        exact Z_iret hC dX8_reader_125 k.1 k.2
      · have k := k.2 c17
        refine Z_bipush (v := (-4)) hC dX8_reader_103 rfl ?_
        refine Z_goto (tgt := 125) hC dX8_reader_105 (by decide) ?_
        exact Z_iret hC dX8_reader_125 k.1 k.2
    by_cases c22 : x2 = 5
    · have c22x : (x2).toInt = 5 := by rw [c22]; rfl
      have k := k.2.2.2.2.2.1 c22
      refine Z_tabIn (tgt := 126) hC dX8_reader_14 (by omega) (by omega) (by rw [c22x]; rfl) (by decide) ?_
      refine Z_aload_n hC dX8_reader_126 rfl rfl ?_
      refine Z_get (o := 0) (c := 8) (k := 0) (v := .ref (ad 1 0)) hC rfl zs_8 lkX8_10 rfl dX8_reader_127 ?_
      refine Z_iload_n hC dX8_reader_130 rfl rfl ?_
      obtain ⟨r24, s23, h25, k⟩ := k
      refine Z_callV (As := [.int x1]) (rest := []) hC h25 cvX8_174 ⟨0, rfl, zs_0, _, rfl, rfl⟩ rfl rfl (Nat.le_of_ble_eq_true rfl) dX8_reader_131 ?_
      refine Z_if_eq (tgt := 142) hC dX8_reader_134 (by decide) (fun c26 => ?_) (fun c26 => ?_)
      · have k := k.1 c26
        refine Z_aload_n hC dX8_reader_142 rfl rfl ?_
        refine Z_get (o := 0) (c := 8) (k := 0) (v := .ref (ad 1 0)) hC rfl zs_8 lkX8_10 rfl dX8_reader_143 ?_
        refine Z_iload_n hC dX8_reader_146 rfl rfl ?_
        refine Z_aload_n hC dX8_reader_147 rfl rfl ?_
        refine Z_get (o := 0) (c := 8) (k := 0) (v := .ref (ad 1 0)) hC rfl zs_8 lkX8_10 rfl dX8_reader_148 ?_
        refine Z_get (o := 1) (c := 0) (k := 6) (v := .ref (ad 1 7)) hC rfl zs_0 lkX8_165 rfl dX8_reader_151 ?_
        refine Z_iload_n hC dX8_reader_154 rfl rfl ?_
        obtain ⟨h27, k⟩ := k
        refine Z_iald (o := 1) (k := 6) hC (zis_of rfl rfl) h27 dX8_reader_155 ?_
        obtain ⟨r29, s28, h30, k⟩ := k
        refine Z_callV (As := [.int x1, .int ((s23 1).2.2 6 x1.toNatClampNeg)]) (rest := []) hC h30 cvX8_181 ⟨0, rfl, zs_0, _, rfl, rfl⟩ rfl rfl (Nat.le_of_ble_eq_true rfl) dX8_reader_156 ?_
        exact Z_iret hC dX8_reader_159 k.1 k.2
      · have k := k.2 c26
        refine Z_bipush (v := (-4)) hC dX8_reader_137 rfl ?_
        refine Z_goto (tgt := 159) hC dX8_reader_139 (by decide) ?_
        exact Z_iret hC dX8_reader_159 k.1 k.2
    have k := k.2.2.2.2.2.2 ⟨c5, c7, c9, c11, c13, c22⟩
    have z31 : (x2).toInt < 0 ∨ 5 < (x2).toInt := by
      apply tab_out
      intro z h1 h2
      rcases (show z = 0 ∨ z = 1 ∨ z = 2 ∨ z = 3 ∨ z = 4 ∨ z = 5 by omega) with rfl | rfl | rfl | rfl | rfl | rfl
      · exact fun e => c5 (Int32.toInt_inj.mp (show (x2).toInt = ((0 : Int32)).toInt from e))
      · exact fun e => c7 (Int32.toInt_inj.mp (show (x2).toInt = ((1 : Int32)).toInt from e))
      · exact fun e => c9 (Int32.toInt_inj.mp (show (x2).toInt = ((2 : Int32)).toInt from e))
      · exact fun e => c11 (Int32.toInt_inj.mp (show (x2).toInt = ((3 : Int32)).toInt from e))
      · exact fun e => c13 (Int32.toInt_inj.mp (show (x2).toInt = ((4 : Int32)).toInt from e))
      · exact fun e => c22 (Int32.toInt_inj.mp (show (x2).toInt = ((5 : Int32)).toInt from e))
    refine Z_tabOut (tgt := 160) hC dX8_reader_14 z31 (by decide) ?_
    refine Z_iconst (v := (-1)) hC dX8_reader_160 rfl ?_
    exact Z_iret hC dX8_reader_161 k.1 k.2
  · have k := k.2 c4
    refine Z_iconst (v := (-1)) hC dX8_reader_11 rfl ?_
    exact Z_iret hC dX8_reader_12 k.1 k.2
theorem eX8_reader {x1 : Int32} {x2 : Int32} {X : Option Value} {Y : ZS} {s : ZS} (k : (∃ (r2 : Int32) (s1 : ZS), Ev l ad D ia d mX0_hasReader [.ref (ad 1 0), .int x1] s (some (.int r2)) s1 ∧ ((¬ r2 = 0 → ((x2 = 0 → (vp_in x1 4 ∧ (X = some (.int ((s1 1).2.2 5 x1.toNatClampNeg)) ∧ Y = s1))) ∧ (x2 = 1 → (vp_in x1 4 ∧ (X = some (.int ((s1 1).2.2 6 x1.toNatClampNeg)) ∧ Y = s1))) ∧ (x2 = 2 → (vp_in x1 4 ∧ (X = some (.int ((s1 1).2.2 7 x1.toNatClampNeg)) ∧ Y = s1))) ∧ (x2 = 3 → (vp_in x1 4 ∧ (X = some (.int ((s1 1).2.2 8 x1.toNatClampNeg)) ∧ Y = s1))) ∧ (x2 = 4 → (∃ (r15 : Int32) (s14 : ZS), Ev l ad D ia d mX0_isDone [.ref (ad 1 0), .int x1] s1 (some (.int r15)) s14 ∧ ((r15 = 0 → (vp_in x1 4 ∧ (∃ (r20 : Int32) (s19 : ZS), Ev l ad D ia d mX0_minutesFor [.ref (ad 1 0), .int x1, .int ((s14 1).2.2 6 x1.toNatClampNeg)] s14 (some (.int r20)) s19 ∧ (X = some (.int r20) ∧ Y = s19)))) ∧ (¬ r15 = 0 → (X = some (.int ((-4))) ∧ Y = s14))))) ∧ (x2 = 5 → (∃ (r24 : Int32) (s23 : ZS), Ev l ad D ia d mX0_isDone [.ref (ad 1 0), .int x1] s1 (some (.int r24)) s23 ∧ ((r24 = 0 → (vp_in x1 4 ∧ (∃ (r29 : Int32) (s28 : ZS), Ev l ad D ia d mX0_dizzyBy [.ref (ad 1 0), .int x1, .int ((s23 1).2.2 6 x1.toNatClampNeg)] s23 (some (.int r29)) s28 ∧ (X = some (.int r29) ∧ Y = s28)))) ∧ (¬ r24 = 0 → (X = some (.int ((-4))) ∧ Y = s23))))) ∧ ((¬ x2 = 0 ∧ ¬ x2 = 1 ∧ ¬ x2 = 2 ∧ ¬ x2 = 3 ∧ ¬ x2 = 4 ∧ ¬ x2 = 5) → (X = some (.int ((-1))) ∧ Y = s1)))) ∧ (r2 = 0 → (X = some (.int ((-1))) ∧ Y = s1))))) : Ev l ad D ia (d + 1) mX8_reader [.ref (ad 0 0), .int x1, .int x2] s X Y :=
  Ev.start (by decide +kernel) (Nat.le_of_ble_eq_true rfl) (fun C hC => bX8_reader_0  hC k)
set_option maxRecDepth 100000 in
set_option maxHeartbeats 4000000 in
theorem bX8_shelve_0 {x1 : Int32} {x2 : Int32} {x3 : Int32} {C : ZC} {X : Option Value} {Y : ZS} {s : ZS} (hC : Zok ad D ia C (d + 1) cX8_shelve 4 RX8 (some .int)) (k : (∃ (r2 : Int32) (s1 : ZS), Ev l ad D ia d mX0_hasBook [.ref (ad 1 0), .int x1] s (some (.int r2)) s1 ∧ ((¬ r2 = 0 → ((x2 = 0 → (∃ (r7 : Int32) (s6 : ZS), Ev l ad D ia d mX8_outside [.int x3, .int 0, .int 7] s1 (some (.int r7)) s6 ∧ ((r7 = 0 → (∃ (r11 : Int32) (s10 : ZS), Ev l ad D ia d mX8_replace [.ref (ad 1 2), .int x1, .int x3] s6 (some (.int r11)) s10 ∧ (X = some (.int r11) ∧ Y = s10))) ∧ (¬ r7 = 0 → (X = some (.int ((-1))) ∧ Y = s6))))) ∧ (x2 = 1 → (∃ (r15 : Int32) (s14 : ZS), Ev l ad D ia d mX8_outside [.int x3, .int 0, .int 9] s1 (some (.int r15)) s14 ∧ ((r15 = 0 → (∃ (r19 : Int32) (s18 : ZS), Ev l ad D ia d mX8_replace [.ref (ad 1 3), .int x1, .int x3] s14 (some (.int r19)) s18 ∧ (X = some (.int r19) ∧ Y = s18))) ∧ (¬ r15 = 0 → (X = some (.int ((-1))) ∧ Y = s14))))) ∧ (x2 = 2 → (∃ (r23 : Int32) (s22 : ZS), Ev l ad D ia d mX0_isBookOrNone [.ref (ad 1 0), .int x3] s1 (some (.int r23)) s22 ∧ ((r23 = 0 → (X = some (.int ((-1))) ∧ Y = s22)) ∧ (¬ r23 = 0 → (∃ (r27 : Int32) (s26 : ZS), Ev l ad D ia d mX8_bookSaid [.int x3] s22 (some (.int r27)) s26 ∧ (∃ (r30 : Int32) (s29 : ZS), Ev l ad D ia d mX8_replace [.ref (ad 1 4), .int x1, .int r27] s26 (some (.int r30)) s29 ∧ (X = some (.int r30) ∧ Y = s29))))))) ∧ ((¬ x2 = 0 ∧ ¬ x2 = 1 ∧ ¬ x2 = 2) → (X = some (.int ((-1))) ∧ Y = s1)))) ∧ (r2 = 0 → (X = some (.int ((-1))) ∧ Y = s1))))) : Z l ad D ia C X Y 0 [(0, .ref (ad 0 0)), (1, .int x1), (2, .int x2), (3, .int x3)] [] s := by
  refine Z_aload_n hC dX8_shelve_0 rfl rfl ?_
  refine Z_get (o := 0) (c := 8) (k := 0) (v := .ref (ad 1 0)) hC rfl zs_8 lkX8_10 rfl dX8_shelve_1 ?_
  refine Z_iload_n hC dX8_shelve_4 rfl rfl ?_
  obtain ⟨r2, s1, h3, k⟩ := k
  refine Z_callV (As := [.int x1]) (rest := []) hC h3 cvX8_142 ⟨0, rfl, zs_0, _, rfl, rfl⟩ rfl rfl (Nat.le_of_ble_eq_true rfl) dX8_shelve_5 ?_
  refine Z_if_ne (tgt := 13) hC dX8_shelve_8 (by decide) (fun c4 => ?_) (fun c4 => ?_)
  · have k := k.1 c4
    refine Z_iload_n hC dX8_shelve_13 rfl rfl ?_
    by_cases c5 : x2 = 0
    · have c5x : (x2).toInt = 0 := by rw [c5]; rfl
      have k := k.1 c5
      refine Z_tabIn (tgt := 40) hC dX8_shelve_14 (by omega) (by omega) (by rw [c5x]; rfl) (by decide) ?_
      refine Z_iload_n hC dX8_shelve_40 rfl rfl ?_
      refine Z_iconst (v := 0) hC dX8_shelve_41 rfl ?_
      refine Z_bipush (v := 7) hC dX8_shelve_42 rfl ?_
      obtain ⟨r7, s6, h8, k⟩ := k
      refine Z_callS (As := [.int x3, .int 0, .int 7]) (rest := []) hC h8 csX8_68 rfl rfl (Nat.le_of_ble_eq_true rfl) dX8_shelve_44 ?_
      refine Z_if_eq (tgt := 54) hC dX8_shelve_47 (by decide) (fun c9 => ?_) (fun c9 => ?_)
      · have k := k.1 c9
        refine Z_aload_n hC dX8_shelve_54 rfl rfl ?_
        refine Z_get (o := 0) (c := 8) (k := 0) (v := .ref (ad 1 0)) hC rfl zs_8 lkX8_10 rfl dX8_shelve_55 ?_
        refine Z_get (o := 1) (c := 0) (k := 1) (v := .ref (ad 1 2)) hC rfl zs_0 lkX8_146 rfl dX8_shelve_58 ?_
        refine Z_iload_n hC dX8_shelve_61 rfl rfl ?_
        refine Z_iload_n hC dX8_shelve_62 rfl rfl ?_
        obtain ⟨r11, s10, h12, k⟩ := k
        refine Z_callS (As := [.ref (ad 1 2), .int x1, .int x3]) (rest := []) hC h12 csX8_184 rfl rfl (Nat.le_of_ble_eq_true rfl) dX8_shelve_63 ?_
        exact Z_iret hC dX8_shelve_66 k.1 k.2
      · have k := k.2 c9
        refine Z_iconst (v := (-1)) hC dX8_shelve_50 rfl ?_
        refine Z_goto (tgt := 66) hC dX8_shelve_51 (by decide) ?_
        exact Z_iret hC dX8_shelve_66 k.1 k.2
    by_cases c13 : x2 = 1
    · have c13x : (x2).toInt = 1 := by rw [c13]; rfl
      have k := k.2.1 c13
      refine Z_tabIn (tgt := 67) hC dX8_shelve_14 (by omega) (by omega) (by rw [c13x]; rfl) (by decide) ?_
      refine Z_iload_n hC dX8_shelve_67 rfl rfl ?_
      refine Z_iconst (v := 0) hC dX8_shelve_68 rfl ?_
      refine Z_bipush (v := 9) hC dX8_shelve_69 rfl ?_
      obtain ⟨r15, s14, h16, k⟩ := k
      refine Z_callS (As := [.int x3, .int 0, .int 9]) (rest := []) hC h16 csX8_68 rfl rfl (Nat.le_of_ble_eq_true rfl) dX8_shelve_71 ?_
      refine Z_if_eq (tgt := 81) hC dX8_shelve_74 (by decide) (fun c17 => ?_) (fun c17 => ?_)
      · have k := k.1 c17
        refine Z_aload_n hC dX8_shelve_81 rfl rfl ?_
        refine Z_get (o := 0) (c := 8) (k := 0) (v := .ref (ad 1 0)) hC rfl zs_8 lkX8_10 rfl dX8_shelve_82 ?_
        refine Z_get (o := 1) (c := 0) (k := 2) (v := .ref (ad 1 3)) hC rfl zs_0 lkX8_149 rfl dX8_shelve_85 ?_
        refine Z_iload_n hC dX8_shelve_88 rfl rfl ?_
        refine Z_iload_n hC dX8_shelve_89 rfl rfl ?_
        obtain ⟨r19, s18, h20, k⟩ := k
        refine Z_callS (As := [.ref (ad 1 3), .int x1, .int x3]) (rest := []) hC h20 csX8_184 rfl rfl (Nat.le_of_ble_eq_true rfl) dX8_shelve_90 ?_
        exact Z_iret hC dX8_shelve_93 k.1 k.2
      · have k := k.2 c17
        refine Z_iconst (v := (-1)) hC dX8_shelve_77 rfl ?_
        refine Z_goto (tgt := 93) hC dX8_shelve_78 (by decide) ?_
        exact Z_iret hC dX8_shelve_93 k.1 k.2
    by_cases c21 : x2 = 2
    · have c21x : (x2).toInt = 2 := by rw [c21]; rfl
      have k := k.2.2.1 c21
      refine Z_tabIn (tgt := 94) hC dX8_shelve_14 (by omega) (by omega) (by rw [c21x]; rfl) (by decide) ?_
      refine Z_aload_n hC dX8_shelve_94 rfl rfl ?_
      refine Z_get (o := 0) (c := 8) (k := 0) (v := .ref (ad 1 0)) hC rfl zs_8 lkX8_10 rfl dX8_shelve_95 ?_
      refine Z_iload_n hC dX8_shelve_98 rfl rfl ?_
      obtain ⟨r23, s22, h24, k⟩ := k
      refine Z_callV (As := [.int x3]) (rest := []) hC h24 cvX8_188 ⟨0, rfl, zs_0, _, rfl, rfl⟩ rfl rfl (Nat.le_of_ble_eq_true rfl) dX8_shelve_99 ?_
      refine Z_if_eq (tgt := 123) hC dX8_shelve_102 (by decide) (fun c25 => ?_) (fun c25 => ?_)
      · have k := k.1 c25
        refine Z_iconst (v := (-1)) hC dX8_shelve_123 rfl ?_
        exact Z_iret hC dX8_shelve_124 k.1 k.2
      · have k := k.2 c25
        refine Z_aload_n hC dX8_shelve_105 rfl rfl ?_
        refine Z_get (o := 0) (c := 8) (k := 0) (v := .ref (ad 1 0)) hC rfl zs_8 lkX8_10 rfl dX8_shelve_106 ?_
        refine Z_get (o := 1) (c := 0) (k := 3) (v := .ref (ad 1 4)) hC rfl zs_0 lkX8_152 rfl dX8_shelve_109 ?_
        refine Z_iload_n hC dX8_shelve_112 rfl rfl ?_
        refine Z_iload_n hC dX8_shelve_113 rfl rfl ?_
        obtain ⟨r27, s26, h28, k⟩ := k
        refine Z_callS (As := [.int x3]) (rest := [.int x1, .ref (ad 1 4)]) hC h28 csX8_191 rfl rfl (Nat.le_of_ble_eq_true rfl) dX8_shelve_114 ?_
        obtain ⟨r30, s29, h31, k⟩ := k
        refine Z_callS (As := [.ref (ad 1 4), .int x1, .int r27]) (rest := []) hC h31 csX8_184 rfl rfl (Nat.le_of_ble_eq_true rfl) dX8_shelve_117 ?_
        refine Z_goto (tgt := 124) hC dX8_shelve_120 (by decide) ?_
        exact Z_iret hC dX8_shelve_124 k.1 k.2
    have k := k.2.2.2 ⟨c5, c13, c21⟩
    have z32 : (x2).toInt < 0 ∨ 2 < (x2).toInt := by
      apply tab_out
      intro z h1 h2
      rcases (show z = 0 ∨ z = 1 ∨ z = 2 by omega) with rfl | rfl | rfl
      · exact fun e => c5 (Int32.toInt_inj.mp (show (x2).toInt = ((0 : Int32)).toInt from e))
      · exact fun e => c13 (Int32.toInt_inj.mp (show (x2).toInt = ((1 : Int32)).toInt from e))
      · exact fun e => c21 (Int32.toInt_inj.mp (show (x2).toInt = ((2 : Int32)).toInt from e))
    refine Z_tabOut (tgt := 125) hC dX8_shelve_14 z32 (by decide) ?_
    refine Z_iconst (v := (-1)) hC dX8_shelve_125 rfl ?_
    exact Z_iret hC dX8_shelve_126 k.1 k.2
  · have k := k.2 c4
    refine Z_iconst (v := (-1)) hC dX8_shelve_11 rfl ?_
    exact Z_iret hC dX8_shelve_12 k.1 k.2
theorem eX8_shelve {x1 : Int32} {x2 : Int32} {x3 : Int32} {X : Option Value} {Y : ZS} {s : ZS} (k : (∃ (r2 : Int32) (s1 : ZS), Ev l ad D ia d mX0_hasBook [.ref (ad 1 0), .int x1] s (some (.int r2)) s1 ∧ ((¬ r2 = 0 → ((x2 = 0 → (∃ (r7 : Int32) (s6 : ZS), Ev l ad D ia d mX8_outside [.int x3, .int 0, .int 7] s1 (some (.int r7)) s6 ∧ ((r7 = 0 → (∃ (r11 : Int32) (s10 : ZS), Ev l ad D ia d mX8_replace [.ref (ad 1 2), .int x1, .int x3] s6 (some (.int r11)) s10 ∧ (X = some (.int r11) ∧ Y = s10))) ∧ (¬ r7 = 0 → (X = some (.int ((-1))) ∧ Y = s6))))) ∧ (x2 = 1 → (∃ (r15 : Int32) (s14 : ZS), Ev l ad D ia d mX8_outside [.int x3, .int 0, .int 9] s1 (some (.int r15)) s14 ∧ ((r15 = 0 → (∃ (r19 : Int32) (s18 : ZS), Ev l ad D ia d mX8_replace [.ref (ad 1 3), .int x1, .int x3] s14 (some (.int r19)) s18 ∧ (X = some (.int r19) ∧ Y = s18))) ∧ (¬ r15 = 0 → (X = some (.int ((-1))) ∧ Y = s14))))) ∧ (x2 = 2 → (∃ (r23 : Int32) (s22 : ZS), Ev l ad D ia d mX0_isBookOrNone [.ref (ad 1 0), .int x3] s1 (some (.int r23)) s22 ∧ ((r23 = 0 → (X = some (.int ((-1))) ∧ Y = s22)) ∧ (¬ r23 = 0 → (∃ (r27 : Int32) (s26 : ZS), Ev l ad D ia d mX8_bookSaid [.int x3] s22 (some (.int r27)) s26 ∧ (∃ (r30 : Int32) (s29 : ZS), Ev l ad D ia d mX8_replace [.ref (ad 1 4), .int x1, .int r27] s26 (some (.int r30)) s29 ∧ (X = some (.int r30) ∧ Y = s29))))))) ∧ ((¬ x2 = 0 ∧ ¬ x2 = 1 ∧ ¬ x2 = 2) → (X = some (.int ((-1))) ∧ Y = s1)))) ∧ (r2 = 0 → (X = some (.int ((-1))) ∧ Y = s1))))) : Ev l ad D ia (d + 1) mX8_shelve [.ref (ad 0 0), .int x1, .int x2, .int x3] s X Y :=
  Ev.start (by decide +kernel) (Nat.le_of_ble_eq_true rfl) (fun C hC => bX8_shelve_0  hC k)
set_option maxRecDepth 100000 in
set_option maxHeartbeats 4000000 in
theorem bX8_alter_0 {x1 : Int32} {x2 : Int32} {x3 : Int32} {C : ZC} {X : Option Value} {Y : ZS} {s : ZS} (hC : Zok ad D ia C (d + 1) cX8_alter 4 RX8 (some .int)) (k : (∃ (r2 : Int32) (s1 : ZS), Ev l ad D ia d mX0_hasReader [.ref (ad 1 0), .int x1] s (some (.int r2)) s1 ∧ ((¬ r2 = 0 → ((x2 = 0 → (∃ (r7 : Int32) (s6 : ZS), Ev l ad D ia d mX8_outside [.int x3, .int 0, .int 3] s1 (some (.int r7)) s6 ∧ ((r7 = 0 → (∃ (r11 : Int32) (s10 : ZS), Ev l ad D ia d mX8_replace [.ref (ad 1 6), .int x1, .int x3] s6 (some (.int r11)) s10 ∧ (X = some (.int r11) ∧ Y = s10))) ∧ (¬ r7 = 0 → (X = some (.int ((-1))) ∧ Y = s6))))) ∧ (x2 = 1 → (∃ (r15 : Int32) (s14 : ZS), Ev l ad D ia d mX0_isBookOrNone [.ref (ad 1 0), .int x3] s1 (some (.int r15)) s14 ∧ ((r15 = 0 → (X = some (.int ((-1))) ∧ Y = s14)) ∧ (¬ r15 = 0 → (∃ (r19 : Int32) (s18 : ZS), Ev l ad D ia d mX8_bookSaid [.int x3] s14 (some (.int r19)) s18 ∧ (∃ (r22 : Int32) (s21 : ZS), Ev l ad D ia d mX8_replace [.ref (ad 1 7), .int x1, .int r19] s18 (some (.int r22)) s21 ∧ (X = some (.int r22) ∧ Y = s21))))))) ∧ (x2 = 2 → (∃ (r26 : Int32) (s25 : ZS), Ev l ad D ia d mX8_outside [.int x3, .int 1, .int 99] s1 (some (.int r26)) s25 ∧ ((r26 = 0 → (∃ (r30 : Int32) (s29 : ZS), Ev l ad D ia d mX8_replace [.ref (ad 1 8), .int x1, .int x3] s25 (some (.int r30)) s29 ∧ (X = some (.int r30) ∧ Y = s29))) ∧ (¬ r26 = 0 → (X = some (.int ((-1))) ∧ Y = s25))))) ∧ ((¬ x2 = 0 ∧ ¬ x2 = 1 ∧ ¬ x2 = 2) → (X = some (.int ((-1))) ∧ Y = s1)))) ∧ (r2 = 0 → (X = some (.int ((-1))) ∧ Y = s1))))) : Z l ad D ia C X Y 0 [(0, .ref (ad 0 0)), (1, .int x1), (2, .int x2), (3, .int x3)] [] s := by
  refine Z_aload_n hC dX8_alter_0 rfl rfl ?_
  refine Z_get (o := 0) (c := 8) (k := 0) (v := .ref (ad 1 0)) hC rfl zs_8 lkX8_10 rfl dX8_alter_1 ?_
  refine Z_iload_n hC dX8_alter_4 rfl rfl ?_
  obtain ⟨r2, s1, h3, k⟩ := k
  refine Z_callV (As := [.int x1]) (rest := []) hC h3 cvX8_159 ⟨0, rfl, zs_0, _, rfl, rfl⟩ rfl rfl (Nat.le_of_ble_eq_true rfl) dX8_alter_5 ?_
  refine Z_if_ne (tgt := 13) hC dX8_alter_8 (by decide) (fun c4 => ?_) (fun c4 => ?_)
  · have k := k.1 c4
    refine Z_iload_n hC dX8_alter_13 rfl rfl ?_
    by_cases c5 : x2 = 0
    · have c5x : (x2).toInt = 0 := by rw [c5]; rfl
      have k := k.1 c5
      refine Z_tabIn (tgt := 40) hC dX8_alter_14 (by omega) (by omega) (by rw [c5x]; rfl) (by decide) ?_
      refine Z_iload_n hC dX8_alter_40 rfl rfl ?_
      refine Z_iconst (v := 0) hC dX8_alter_41 rfl ?_
      refine Z_iconst (v := 3) hC dX8_alter_42 rfl ?_
      obtain ⟨r7, s6, h8, k⟩ := k
      refine Z_callS (As := [.int x3, .int 0, .int 3]) (rest := []) hC h8 csX8_68 rfl rfl (Nat.le_of_ble_eq_true rfl) dX8_alter_43 ?_
      refine Z_if_eq (tgt := 53) hC dX8_alter_46 (by decide) (fun c9 => ?_) (fun c9 => ?_)
      · have k := k.1 c9
        refine Z_aload_n hC dX8_alter_53 rfl rfl ?_
        refine Z_get (o := 0) (c := 8) (k := 0) (v := .ref (ad 1 0)) hC rfl zs_8 lkX8_10 rfl dX8_alter_54 ?_
        refine Z_get (o := 1) (c := 0) (k := 5) (v := .ref (ad 1 6)) hC rfl zs_0 lkX8_162 rfl dX8_alter_57 ?_
        refine Z_iload_n hC dX8_alter_60 rfl rfl ?_
        refine Z_iload_n hC dX8_alter_61 rfl rfl ?_
        obtain ⟨r11, s10, h12, k⟩ := k
        refine Z_callS (As := [.ref (ad 1 6), .int x1, .int x3]) (rest := []) hC h12 csX8_184 rfl rfl (Nat.le_of_ble_eq_true rfl) dX8_alter_62 ?_
        exact Z_iret hC dX8_alter_65 k.1 k.2
      · have k := k.2 c9
        refine Z_iconst (v := (-1)) hC dX8_alter_49 rfl ?_
        refine Z_goto (tgt := 65) hC dX8_alter_50 (by decide) ?_
        exact Z_iret hC dX8_alter_65 k.1 k.2
    by_cases c13 : x2 = 1
    · have c13x : (x2).toInt = 1 := by rw [c13]; rfl
      have k := k.2.1 c13
      refine Z_tabIn (tgt := 66) hC dX8_alter_14 (by omega) (by omega) (by rw [c13x]; rfl) (by decide) ?_
      refine Z_aload_n hC dX8_alter_66 rfl rfl ?_
      refine Z_get (o := 0) (c := 8) (k := 0) (v := .ref (ad 1 0)) hC rfl zs_8 lkX8_10 rfl dX8_alter_67 ?_
      refine Z_iload_n hC dX8_alter_70 rfl rfl ?_
      obtain ⟨r15, s14, h16, k⟩ := k
      refine Z_callV (As := [.int x3]) (rest := []) hC h16 cvX8_188 ⟨0, rfl, zs_0, _, rfl, rfl⟩ rfl rfl (Nat.le_of_ble_eq_true rfl) dX8_alter_71 ?_
      refine Z_if_eq (tgt := 95) hC dX8_alter_74 (by decide) (fun c17 => ?_) (fun c17 => ?_)
      · have k := k.1 c17
        refine Z_iconst (v := (-1)) hC dX8_alter_95 rfl ?_
        exact Z_iret hC dX8_alter_96 k.1 k.2
      · have k := k.2 c17
        refine Z_aload_n hC dX8_alter_77 rfl rfl ?_
        refine Z_get (o := 0) (c := 8) (k := 0) (v := .ref (ad 1 0)) hC rfl zs_8 lkX8_10 rfl dX8_alter_78 ?_
        refine Z_get (o := 1) (c := 0) (k := 6) (v := .ref (ad 1 7)) hC rfl zs_0 lkX8_165 rfl dX8_alter_81 ?_
        refine Z_iload_n hC dX8_alter_84 rfl rfl ?_
        refine Z_iload_n hC dX8_alter_85 rfl rfl ?_
        obtain ⟨r19, s18, h20, k⟩ := k
        refine Z_callS (As := [.int x3]) (rest := [.int x1, .ref (ad 1 7)]) hC h20 csX8_191 rfl rfl (Nat.le_of_ble_eq_true rfl) dX8_alter_86 ?_
        obtain ⟨r22, s21, h23, k⟩ := k
        refine Z_callS (As := [.ref (ad 1 7), .int x1, .int r19]) (rest := []) hC h23 csX8_184 rfl rfl (Nat.le_of_ble_eq_true rfl) dX8_alter_89 ?_
        refine Z_goto (tgt := 96) hC dX8_alter_92 (by decide) ?_
        exact Z_iret hC dX8_alter_96 k.1 k.2
    by_cases c24 : x2 = 2
    · have c24x : (x2).toInt = 2 := by rw [c24]; rfl
      have k := k.2.2.1 c24
      refine Z_tabIn (tgt := 97) hC dX8_alter_14 (by omega) (by omega) (by rw [c24x]; rfl) (by decide) ?_
      refine Z_iload_n hC dX8_alter_97 rfl rfl ?_
      refine Z_iconst (v := 1) hC dX8_alter_98 rfl ?_
      refine Z_bipush (v := 99) hC dX8_alter_99 rfl ?_
      obtain ⟨r26, s25, h27, k⟩ := k
      refine Z_callS (As := [.int x3, .int 1, .int 99]) (rest := []) hC h27 csX8_68 rfl rfl (Nat.le_of_ble_eq_true rfl) dX8_alter_101 ?_
      refine Z_if_eq (tgt := 111) hC dX8_alter_104 (by decide) (fun c28 => ?_) (fun c28 => ?_)
      · have k := k.1 c28
        refine Z_aload_n hC dX8_alter_111 rfl rfl ?_
        refine Z_get (o := 0) (c := 8) (k := 0) (v := .ref (ad 1 0)) hC rfl zs_8 lkX8_10 rfl dX8_alter_112 ?_
        refine Z_get (o := 1) (c := 0) (k := 7) (v := .ref (ad 1 8)) hC rfl zs_0 lkX8_168 rfl dX8_alter_115 ?_
        refine Z_iload_n hC dX8_alter_118 rfl rfl ?_
        refine Z_iload_n hC dX8_alter_119 rfl rfl ?_
        obtain ⟨r30, s29, h31, k⟩ := k
        refine Z_callS (As := [.ref (ad 1 8), .int x1, .int x3]) (rest := []) hC h31 csX8_184 rfl rfl (Nat.le_of_ble_eq_true rfl) dX8_alter_120 ?_
        exact Z_iret hC dX8_alter_123 k.1 k.2
      · have k := k.2 c28
        refine Z_iconst (v := (-1)) hC dX8_alter_107 rfl ?_
        refine Z_goto (tgt := 123) hC dX8_alter_108 (by decide) ?_
        exact Z_iret hC dX8_alter_123 k.1 k.2
    have k := k.2.2.2 ⟨c5, c13, c24⟩
    have z32 : (x2).toInt < 0 ∨ 2 < (x2).toInt := by
      apply tab_out
      intro z h1 h2
      rcases (show z = 0 ∨ z = 1 ∨ z = 2 by omega) with rfl | rfl | rfl
      · exact fun e => c5 (Int32.toInt_inj.mp (show (x2).toInt = ((0 : Int32)).toInt from e))
      · exact fun e => c13 (Int32.toInt_inj.mp (show (x2).toInt = ((1 : Int32)).toInt from e))
      · exact fun e => c24 (Int32.toInt_inj.mp (show (x2).toInt = ((2 : Int32)).toInt from e))
    refine Z_tabOut (tgt := 124) hC dX8_alter_14 z32 (by decide) ?_
    refine Z_iconst (v := (-1)) hC dX8_alter_124 rfl ?_
    exact Z_iret hC dX8_alter_125 k.1 k.2
  · have k := k.2 c4
    refine Z_iconst (v := (-1)) hC dX8_alter_11 rfl ?_
    exact Z_iret hC dX8_alter_12 k.1 k.2
theorem eX8_alter {x1 : Int32} {x2 : Int32} {x3 : Int32} {X : Option Value} {Y : ZS} {s : ZS} (k : (∃ (r2 : Int32) (s1 : ZS), Ev l ad D ia d mX0_hasReader [.ref (ad 1 0), .int x1] s (some (.int r2)) s1 ∧ ((¬ r2 = 0 → ((x2 = 0 → (∃ (r7 : Int32) (s6 : ZS), Ev l ad D ia d mX8_outside [.int x3, .int 0, .int 3] s1 (some (.int r7)) s6 ∧ ((r7 = 0 → (∃ (r11 : Int32) (s10 : ZS), Ev l ad D ia d mX8_replace [.ref (ad 1 6), .int x1, .int x3] s6 (some (.int r11)) s10 ∧ (X = some (.int r11) ∧ Y = s10))) ∧ (¬ r7 = 0 → (X = some (.int ((-1))) ∧ Y = s6))))) ∧ (x2 = 1 → (∃ (r15 : Int32) (s14 : ZS), Ev l ad D ia d mX0_isBookOrNone [.ref (ad 1 0), .int x3] s1 (some (.int r15)) s14 ∧ ((r15 = 0 → (X = some (.int ((-1))) ∧ Y = s14)) ∧ (¬ r15 = 0 → (∃ (r19 : Int32) (s18 : ZS), Ev l ad D ia d mX8_bookSaid [.int x3] s14 (some (.int r19)) s18 ∧ (∃ (r22 : Int32) (s21 : ZS), Ev l ad D ia d mX8_replace [.ref (ad 1 7), .int x1, .int r19] s18 (some (.int r22)) s21 ∧ (X = some (.int r22) ∧ Y = s21))))))) ∧ (x2 = 2 → (∃ (r26 : Int32) (s25 : ZS), Ev l ad D ia d mX8_outside [.int x3, .int 1, .int 99] s1 (some (.int r26)) s25 ∧ ((r26 = 0 → (∃ (r30 : Int32) (s29 : ZS), Ev l ad D ia d mX8_replace [.ref (ad 1 8), .int x1, .int x3] s25 (some (.int r30)) s29 ∧ (X = some (.int r30) ∧ Y = s29))) ∧ (¬ r26 = 0 → (X = some (.int ((-1))) ∧ Y = s25))))) ∧ ((¬ x2 = 0 ∧ ¬ x2 = 1 ∧ ¬ x2 = 2) → (X = some (.int ((-1))) ∧ Y = s1)))) ∧ (r2 = 0 → (X = some (.int ((-1))) ∧ Y = s1))))) : Ev l ad D ia (d + 1) mX8_alter [.ref (ad 0 0), .int x1, .int x2, .int x3] s X Y :=
  Ev.start (by decide +kernel) (Nat.le_of_ble_eq_true rfl) (fun C hC => bX8_alter_0  hC k)
set_option maxRecDepth 100000 in
set_option maxHeartbeats 4000000 in
theorem bX8_roll_0 {x1 : Int32} {C : ZC} {X : Option Value} {Y : ZS} {s : ZS} (hC : Zok ad D ia C (d + 1) cX8_roll 3 RX8 (some .int)) (k : (∃ (r2 : Int32) (s1 : ZS), Ev l ad D ia d mX8_outside [.int x1, .int 0, .int 7] s (some (.int r2)) s1 ∧ ((r2 = 0 → (∀ s5 : ZS, s5 = stI s1 1 9 x1 → (X = some (.int ((s1 1).1 9)) ∧ Y = s5))) ∧ (¬ r2 = 0 → (X = some (.int ((-1))) ∧ Y = s1))))) : Z l ad D ia C X Y 0 [(0, .ref (ad 0 0)), (1, .int x1)] [] s := by
  refine Z_iload_n hC dX8_roll_0 rfl rfl ?_
  refine Z_iconst (v := 0) hC dX8_roll_1 rfl ?_
  refine Z_bipush (v := 7) hC dX8_roll_2 rfl ?_
  obtain ⟨r2, s1, h3, k⟩ := k
  refine Z_callS (As := [.int x1, .int 0, .int 7]) (rest := []) hC h3 csX8_68 rfl rfl (Nat.le_of_ble_eq_true rfl) dX8_roll_4 ?_
  refine Z_if_eq (tgt := 12) hC dX8_roll_7 (by decide) (fun c4 => ?_) (fun c4 => ?_)
  · have k := k.1 c4
    refine Z_aload_n hC dX8_roll_12 rfl rfl ?_
    refine Z_get (o := 0) (c := 8) (k := 0) (v := .ref (ad 1 0)) hC rfl zs_8 lkX8_10 rfl dX8_roll_13 ?_
    refine Z_get (o := 1) (c := 0) (k := 9) (v := .int ((s1 1).1 9)) hC rfl zs_0 lkX8_129 rfl dX8_roll_16 ?_
    refine Z_istore_n (V2 := [(2, .int ((s1 1).1 9)), (0, .ref (ad 0 0)), (1, .int x1)]) hC dX8_roll_19 rfl (by decide) rfl ?_
    refine Z_aload_n hC dX8_roll_20 rfl rfl ?_
    refine Z_get (o := 0) (c := 8) (k := 0) (v := .ref (ad 1 0)) hC rfl zs_8 lkX8_10 rfl dX8_roll_21 ?_
    refine Z_iload_n hC dX8_roll_24 rfl rfl ?_
    refine Z_putI (o := 1) (k := 9) hC rfl zs_0 pkX8_129 rfl rfl (hsX0_9 _ _ _) dX8_roll_25 (fun s5 es5 => ?_)
    have k := k s5 es5
    refine Z_iload_n hC dX8_roll_28 rfl rfl ?_
    exact Z_iret hC dX8_roll_29 k.1 k.2
  · have k := k.2 c4
    refine Z_iconst (v := (-1)) hC dX8_roll_10 rfl ?_
    exact Z_iret hC dX8_roll_11 k.1 k.2
theorem eX8_roll {x1 : Int32} {X : Option Value} {Y : ZS} {s : ZS} (k : (∃ (r2 : Int32) (s1 : ZS), Ev l ad D ia d mX8_outside [.int x1, .int 0, .int 7] s (some (.int r2)) s1 ∧ ((r2 = 0 → (∀ s5 : ZS, s5 = stI s1 1 9 x1 → (X = some (.int ((s1 1).1 9)) ∧ Y = s5))) ∧ (¬ r2 = 0 → (X = some (.int ((-1))) ∧ Y = s1))))) : Ev l ad D ia (d + 1) mX8_roll [.ref (ad 0 0), .int x1] s X Y :=
  Ev.start (by decide +kernel) (Nat.le_of_ble_eq_true rfl) (fun C hC => bX8_roll_0  hC k)
set_option maxRecDepth 100000 in
set_option maxHeartbeats 4000000 in
theorem bX8_forgets_0 {x1 : Int32} {C : ZC} {X : Option Value} {Y : ZS} {s : ZS} (hC : Zok ad D ia C (d + 1) cX8_forgets 2 RX8 (some .int)) (k : (∃ (r2 : Int32) (s1 : ZS), Ev l ad D ia d mX0_hasReader [.ref (ad 1 0), .int x1] s (some (.int r2)) s1 ∧ ((¬ r2 = 0 → (∃ (r6 : Int32) (s5 : ZS), Ev l ad D ia d mX8_replace [.ref (ad 1 9), .int x1, .int 0] s1 (some (.int r6)) s5 ∧ (∃ (r9 : Int32) (s8 : ZS), Ev l ad D ia d mJ6_bitCount_0f7a4 [.int r6] s5 (some (.int r9)) s8 ∧ (X = some (.int r9) ∧ Y = s8)))) ∧ (r2 = 0 → (X = some (.int ((-1))) ∧ Y = s1))))) : Z l ad D ia C X Y 0 [(0, .ref (ad 0 0)), (1, .int x1)] [] s := by
  refine Z_aload_n hC dX8_forgets_0 rfl rfl ?_
  refine Z_get (o := 0) (c := 8) (k := 0) (v := .ref (ad 1 0)) hC rfl zs_8 lkX8_10 rfl dX8_forgets_1 ?_
  refine Z_iload_n hC dX8_forgets_4 rfl rfl ?_
  obtain ⟨r2, s1, h3, k⟩ := k
  refine Z_callV (As := [.int x1]) (rest := []) hC h3 cvX8_159 ⟨0, rfl, zs_0, _, rfl, rfl⟩ rfl rfl (Nat.le_of_ble_eq_true rfl) dX8_forgets_5 ?_
  refine Z_if_ne (tgt := 13) hC dX8_forgets_8 (by decide) (fun c4 => ?_) (fun c4 => ?_)
  · have k := k.1 c4
    refine Z_aload_n hC dX8_forgets_13 rfl rfl ?_
    refine Z_get (o := 0) (c := 8) (k := 0) (v := .ref (ad 1 0)) hC rfl zs_8 lkX8_10 rfl dX8_forgets_14 ?_
    refine Z_get (o := 1) (c := 0) (k := 8) (v := .ref (ad 1 9)) hC rfl zs_0 lkX8_171 rfl dX8_forgets_17 ?_
    refine Z_iload_n hC dX8_forgets_20 rfl rfl ?_
    refine Z_iconst (v := 0) hC dX8_forgets_21 rfl ?_
    obtain ⟨r6, s5, h7, k⟩ := k
    refine Z_callS (As := [.ref (ad 1 9), .int x1, .int 0]) (rest := []) hC h7 csX8_184 rfl rfl (Nat.le_of_ble_eq_true rfl) dX8_forgets_22 ?_
    obtain ⟨r9, s8, h10, k⟩ := k
    refine Z_callS (As := [.int r6]) (rest := []) hC h10 csX8_194 rfl rfl (Nat.le_of_ble_eq_true rfl) dX8_forgets_25 ?_
    exact Z_iret hC dX8_forgets_28 k.1 k.2
  · have k := k.2 c4
    refine Z_iconst (v := (-1)) hC dX8_forgets_11 rfl ?_
    exact Z_iret hC dX8_forgets_12 k.1 k.2
theorem eX8_forgets {x1 : Int32} {X : Option Value} {Y : ZS} {s : ZS} (k : (∃ (r2 : Int32) (s1 : ZS), Ev l ad D ia d mX0_hasReader [.ref (ad 1 0), .int x1] s (some (.int r2)) s1 ∧ ((¬ r2 = 0 → (∃ (r6 : Int32) (s5 : ZS), Ev l ad D ia d mX8_replace [.ref (ad 1 9), .int x1, .int 0] s1 (some (.int r6)) s5 ∧ (∃ (r9 : Int32) (s8 : ZS), Ev l ad D ia d mJ6_bitCount_0f7a4 [.int r6] s5 (some (.int r9)) s8 ∧ (X = some (.int r9) ∧ Y = s8)))) ∧ (r2 = 0 → (X = some (.int ((-1))) ∧ Y = s1))))) : Ev l ad D ia (d + 1) mX8_forgets [.ref (ad 0 0), .int x1] s X Y :=
  Ev.start (by decide +kernel) (Nat.le_of_ble_eq_true rfl) (fun C hC => bX8_forgets_0  hC k)
set_option maxRecDepth 100000 in
set_option maxHeartbeats 4000000 in
theorem bX8_fetch_0 {x1 : Int32} {x2 : Int32} {C : ZC} {X : Option Value} {Y : ZS} {s : ZS} (hC : Zok ad D ia C (d + 1) cX8_fetch 4 RX8 (some .int)) (k : (∃ (r2 : Int32) (s1 : ZS), Ev l ad D ia d mX0_refusalOf [.ref (ad 1 0), .int x1, .int x2] s (some (.int r2)) s1 ∧ ((¬ r2 = 0 → (X = some (.int r2) ∧ Y = s1)) ∧ (r2 = 0 → (∃ (r6 : Int32) (s5 : ZS), Ev l ad D ia d mX0_bring [.ref (ad 1 0), .int x1, .int x2] s1 (some (.int r6)) s5 ∧ (X = some (.int r6) ∧ Y = s5)))))) : Z l ad D ia C X Y 0 [(0, .ref (ad 0 0)), (1, .int x1), (2, .int x2)] [] s := by
  refine Z_aload_n hC dX8_fetch_0 rfl rfl ?_
  refine Z_get (o := 0) (c := 8) (k := 0) (v := .ref (ad 1 0)) hC rfl zs_8 lkX8_10 rfl dX8_fetch_1 ?_
  refine Z_iload_n hC dX8_fetch_4 rfl rfl ?_
  refine Z_iload_n hC dX8_fetch_5 rfl rfl ?_
  obtain ⟨r2, s1, h3, k⟩ := k
  refine Z_callV (As := [.int x1, .int x2]) (rest := []) hC h3 cvX8_199 ⟨0, rfl, zs_0, _, rfl, rfl⟩ rfl rfl (Nat.le_of_ble_eq_true rfl) dX8_fetch_6 ?_
  refine Z_istore_n (V2 := [(3, .int r2), (0, .ref (ad 0 0)), (1, .int x1), (2, .int x2)]) hC dX8_fetch_9 rfl (by decide) rfl ?_
  refine Z_iload_n hC dX8_fetch_10 rfl rfl ?_
  refine Z_if_ne (tgt := 26) hC dX8_fetch_11 (by decide) (fun c4 => ?_) (fun c4 => ?_)
  · have k := k.1 c4
    refine Z_iload_n hC dX8_fetch_26 rfl rfl ?_
    exact Z_iret hC dX8_fetch_27 k.1 k.2
  · have k := k.2 c4
    refine Z_aload_n hC dX8_fetch_14 rfl rfl ?_
    refine Z_get (o := 0) (c := 8) (k := 0) (v := .ref (ad 1 0)) hC rfl zs_8 lkX8_10 rfl dX8_fetch_15 ?_
    refine Z_iload_n hC dX8_fetch_18 rfl rfl ?_
    refine Z_iload_n hC dX8_fetch_19 rfl rfl ?_
    obtain ⟨r6, s5, h7, k⟩ := k
    refine Z_callV (As := [.int x1, .int x2]) (rest := []) hC h7 cvX8_202 ⟨0, rfl, zs_0, _, rfl, rfl⟩ rfl rfl (Nat.le_of_ble_eq_true rfl) dX8_fetch_20 ?_
    refine Z_goto (tgt := 27) hC dX8_fetch_23 (by decide) ?_
    exact Z_iret hC dX8_fetch_27 k.1 k.2
theorem eX8_fetch {x1 : Int32} {x2 : Int32} {X : Option Value} {Y : ZS} {s : ZS} (k : (∃ (r2 : Int32) (s1 : ZS), Ev l ad D ia d mX0_refusalOf [.ref (ad 1 0), .int x1, .int x2] s (some (.int r2)) s1 ∧ ((¬ r2 = 0 → (X = some (.int r2) ∧ Y = s1)) ∧ (r2 = 0 → (∃ (r6 : Int32) (s5 : ZS), Ev l ad D ia d mX0_bring [.ref (ad 1 0), .int x1, .int x2] s1 (some (.int r6)) s5 ∧ (X = some (.int r6) ∧ Y = s5)))))) : Ev l ad D ia (d + 1) mX8_fetch [.ref (ad 0 0), .int x1, .int x2] s X Y :=
  Ev.start (by decide +kernel) (Nat.le_of_ble_eq_true rfl) (fun C hC => bX8_fetch_0  hC k)
set_option maxRecDepth 100000 in
set_option maxHeartbeats 4000000 in
theorem bX8_days_0 {x1 : Int32} {C : ZC} {X : Option Value} {Y : ZS} {s : ZS} (hC : Zok ad D ia C (d + 1) cX8_days 3 RX8 (some .int)) (k : (∃ (r2 : Int32) (s1 : ZS), Ev l ad D ia d mX8_outside [.int x1, .int 0, .int 30] s (some (.int r2)) s1 ∧ ((r2 = 0 → (((((s1 1).1 11) + x1) ≤ 999 → (∃ s6 : ZS, Ev l ad D ia d mX8_beginTrial [.ref (ad 0 0)] s1 none s6 ∧ (∃ s8 : ZS, Ev l ad D ia d mX0_passDays [.ref (ad 2 0), .int x1] s6 none s8 ∧ ((((s8 2).1 10) ≤ 9999 → (∃ s11 : ZS, Ev l ad D ia d mX0_copyFrom [.ref (ad 1 0), .ref (ad 2 0)] s8 none s11 ∧ (X = some (.int ((s8 2).1 12)) ∧ Y = s11))) ∧ (¬ ((s8 2).1 10) ≤ 9999 → (X = some (.int ((-3))) ∧ Y = s8)))))) ∧ (¬ (((s1 1).1 11) + x1) ≤ 999 → (X = some (.int ((-3))) ∧ Y = s1)))) ∧ (¬ r2 = 0 → (X = some (.int ((-1))) ∧ Y = s1))))) : Z l ad D ia C X Y 0 [(0, .ref (ad 0 0)), (1, .int x1)] [] s := by
  refine Z_iload_n hC dX8_days_0 rfl rfl ?_
  refine Z_iconst (v := 0) hC dX8_days_1 rfl ?_
  refine Z_bipush (v := 30) hC dX8_days_2 rfl ?_
  obtain ⟨r2, s1, h3, k⟩ := k
  refine Z_callS (As := [.int x1, .int 0, .int 30]) (rest := []) hC h3 csX8_68 rfl rfl (Nat.le_of_ble_eq_true rfl) dX8_days_4 ?_
  refine Z_if_eq (tgt := 12) hC dX8_days_7 (by decide) (fun c4 => ?_) (fun c4 => ?_)
  · have k := k.1 c4
    refine Z_aload_n hC dX8_days_12 rfl rfl ?_
    refine Z_get (o := 0) (c := 8) (k := 0) (v := .ref (ad 1 0)) hC rfl zs_8 lkX8_10 rfl dX8_days_13 ?_
    refine Z_get (o := 1) (c := 0) (k := 11) (v := .int ((s1 1).1 11)) hC rfl zs_0 lkX8_135 rfl dX8_days_16 ?_
    refine Z_iload_n hC dX8_days_19 rfl rfl ?_
    refine Z_iadd hC dX8_days_20 ?_
    refine Z_sipush (v := 999) hC dX8_days_21 rfl ?_
    refine Z_icmp_le (tgt := 30) hC dX8_days_24 (by decide) (fun c5 => ?_) (fun c5 => ?_)
    · have k := k.1 c5
      refine Z_aload_n hC dX8_days_30 rfl rfl ?_
      obtain ⟨s6, h7, k⟩ := k
      refine Z_callV (As := []) (rest := []) hC h7 cvX8_205 ⟨8, rfl, zs_8, _, rfl, rfl⟩ rfl rfl (Nat.le_of_ble_eq_true rfl) dX8_days_31 ?_
      refine Z_aload_n hC dX8_days_34 rfl rfl ?_
      refine Z_get (o := 0) (c := 8) (k := 1) (v := .ref (ad 2 0)) hC rfl zs_8 lkX8_16 rfl dX8_days_35 ?_
      refine Z_iload_n hC dX8_days_38 rfl rfl ?_
      obtain ⟨s8, h9, k⟩ := k
      refine Z_callV (As := [.int x1]) (rest := []) hC h9 cvX8_208 ⟨0, rfl, zs_0, _, rfl, rfl⟩ rfl rfl (Nat.le_of_ble_eq_true rfl) dX8_days_39 ?_
      refine Z_aload_n hC dX8_days_42 rfl rfl ?_
      refine Z_get (o := 0) (c := 8) (k := 1) (v := .ref (ad 2 0)) hC rfl zs_8 lkX8_16 rfl dX8_days_43 ?_
      refine Z_get (o := 2) (c := 0) (k := 10) (v := .int ((s8 2).1 10)) hC rfl zs_0 lkX8_132 rfl dX8_days_46 ?_
      refine Z_sipush (v := 9999) hC dX8_days_49 rfl ?_
      refine Z_icmp_le (tgt := 58) hC dX8_days_52 (by decide) (fun c10 => ?_) (fun c10 => ?_)
      · have k := k.1 c10
        refine Z_aload_n hC dX8_days_58 rfl rfl ?_
        refine Z_get (o := 0) (c := 8) (k := 1) (v := .ref (ad 2 0)) hC rfl zs_8 lkX8_16 rfl dX8_days_59 ?_
        refine Z_get (o := 2) (c := 0) (k := 12) (v := .int ((s8 2).1 12)) hC rfl zs_0 lkX8_212 rfl dX8_days_62 ?_
        refine Z_istore_n (V2 := [(2, .int ((s8 2).1 12)), (0, .ref (ad 0 0)), (1, .int x1)]) hC dX8_days_65 rfl (by decide) rfl ?_
        refine Z_aload_n hC dX8_days_66 rfl rfl ?_
        refine Z_get (o := 0) (c := 8) (k := 0) (v := .ref (ad 1 0)) hC rfl zs_8 lkX8_10 rfl dX8_days_67 ?_
        refine Z_aload_n hC dX8_days_70 rfl rfl ?_
        refine Z_get (o := 0) (c := 8) (k := 1) (v := .ref (ad 2 0)) hC rfl zs_8 lkX8_16 rfl dX8_days_71 ?_
        obtain ⟨s11, h12, k⟩ := k
        refine Z_callV (As := [.ref (ad 2 0)]) (rest := []) hC h12 cvX8_109 ⟨0, rfl, zs_0, _, rfl, rfl⟩ rfl rfl (Nat.le_of_ble_eq_true rfl) dX8_days_74 ?_
        refine Z_iload_n hC dX8_days_77 rfl rfl ?_
        exact Z_iret hC dX8_days_78 k.1 k.2
      · have k := k.2 c10
        refine Z_bipush (v := (-3)) hC dX8_days_55 rfl ?_
        exact Z_iret hC dX8_days_57 k.1 k.2
    · have k := k.2 c5
      refine Z_bipush (v := (-3)) hC dX8_days_27 rfl ?_
      exact Z_iret hC dX8_days_29 k.1 k.2
  · have k := k.2 c4
    refine Z_iconst (v := (-1)) hC dX8_days_10 rfl ?_
    exact Z_iret hC dX8_days_11 k.1 k.2
theorem eX8_days {x1 : Int32} {X : Option Value} {Y : ZS} {s : ZS} (k : (∃ (r2 : Int32) (s1 : ZS), Ev l ad D ia d mX8_outside [.int x1, .int 0, .int 30] s (some (.int r2)) s1 ∧ ((r2 = 0 → (((((s1 1).1 11) + x1) ≤ 999 → (∃ s6 : ZS, Ev l ad D ia d mX8_beginTrial [.ref (ad 0 0)] s1 none s6 ∧ (∃ s8 : ZS, Ev l ad D ia d mX0_passDays [.ref (ad 2 0), .int x1] s6 none s8 ∧ ((((s8 2).1 10) ≤ 9999 → (∃ s11 : ZS, Ev l ad D ia d mX0_copyFrom [.ref (ad 1 0), .ref (ad 2 0)] s8 none s11 ∧ (X = some (.int ((s8 2).1 12)) ∧ Y = s11))) ∧ (¬ ((s8 2).1 10) ≤ 9999 → (X = some (.int ((-3))) ∧ Y = s8)))))) ∧ (¬ (((s1 1).1 11) + x1) ≤ 999 → (X = some (.int ((-3))) ∧ Y = s1)))) ∧ (¬ r2 = 0 → (X = some (.int ((-1))) ∧ Y = s1))))) : Ev l ad D ia (d + 1) mX8_days [.ref (ad 0 0), .int x1] s X Y :=
  Ev.start (by decide +kernel) (Nat.le_of_ble_eq_true rfl) (fun C hC => bX8_days_0  hC k)
set_option maxRecDepth 100000 in
set_option maxHeartbeats 4000000 in
theorem bX8_runs_0 {x1 : Int32} {x2 : Int32} {C : ZC} {X : Option Value} {Y : ZS} {s : ZS} (hC : Zok ad D ia C (d + 1) cX8_runs 3 RX8 (some .int)) (k : (∃ (r2 : Int32) (s1 : ZS), Ev l ad D ia d mX8_outside [.int x1, .int 0, .int 60] s (some (.int r2)) s1 ∧ ((¬ r2 = 0 → (X = some (.int ((-1))) ∧ Y = s1)) ∧ (r2 = 0 → (∃ (r6 : Int32) (s5 : ZS), Ev l ad D ia d mX8_outside [.int x2, .int 0, .int 3] s1 (some (.int r6)) s5 ∧ ((r6 = 0 → (∃ s9 : ZS, Ev l ad D ia d mX8_beginTrial [.ref (ad 0 0)] s5 none s9 ∧ ((¬ x2 = 3 → (∃ s12 : ZS, Ev l ad D ia d mX0_passDays [.ref (ad 2 0), .int x1] s9 none s12 ∧ ((x2 = 0 → (X = some (.int ((s12 2).1 12)) ∧ Y = s12)) ∧ (x2 = 1 → (∃ (r17 : Int32) (s16 : ZS), Ev l ad D ia d mX8_trialMinutes [.ref (ad 0 0)] s12 (some (.int r17)) s16 ∧ (X = some (.int r17) ∧ Y = s16))) ∧ ((¬ x2 = 0 ∧ ¬ x2 = 1) → (X = some (.int ((s12 2).1 13)) ∧ Y = s12))))) ∧ (x2 = 3 → (∃ (r20 : Int32) (s19 : ZS), Ev l ad D ia d mX8_daysTillAllDone [.ref (ad 0 0), .int x1] s9 (some (.int r20)) s19 ∧ (X = some (.int r20) ∧ Y = s19)))))) ∧ (¬ r6 = 0 → (X = some (.int ((-1))) ∧ Y = s5)))))))) : Z l ad D ia C X Y 0 [(0, .ref (ad 0 0)), (1, .int x1), (2, .int x2)] [] s := by
  refine Z_iload_n hC dX8_runs_0 rfl rfl ?_
  refine Z_iconst (v := 0) hC dX8_runs_1 rfl ?_
  refine Z_bipush (v := 60) hC dX8_runs_2 rfl ?_
  obtain ⟨r2, s1, h3, k⟩ := k
  refine Z_callS (As := [.int x1, .int 0, .int 60]) (rest := []) hC h3 csX8_68 rfl rfl (Nat.le_of_ble_eq_true rfl) dX8_runs_4 ?_
  refine Z_if_ne (tgt := 19) hC dX8_runs_7 (by decide) (fun c4 => ?_) (fun c4 => ?_)
  · have k := k.1 c4
    refine Z_iconst (v := (-1)) hC dX8_runs_19 rfl ?_
    exact Z_iret hC dX8_runs_20 k.1 k.2
  · have k := k.2 c4
    refine Z_iload_n hC dX8_runs_10 rfl rfl ?_
    refine Z_iconst (v := 0) hC dX8_runs_11 rfl ?_
    refine Z_iconst (v := 3) hC dX8_runs_12 rfl ?_
    obtain ⟨r6, s5, h7, k⟩ := k
    refine Z_callS (As := [.int x2, .int 0, .int 3]) (rest := []) hC h7 csX8_68 rfl rfl (Nat.le_of_ble_eq_true rfl) dX8_runs_13 ?_
    refine Z_if_eq (tgt := 21) hC dX8_runs_16 (by decide) (fun c8 => ?_) (fun c8 => ?_)
    · have k := k.1 c8
      refine Z_aload_n hC dX8_runs_21 rfl rfl ?_
      obtain ⟨s9, h10, k⟩ := k
      refine Z_callV (As := []) (rest := []) hC h10 cvX8_205 ⟨8, rfl, zs_8, _, rfl, rfl⟩ rfl rfl (Nat.le_of_ble_eq_true rfl) dX8_runs_22 ?_
      refine Z_iload_n hC dX8_runs_25 rfl rfl ?_
      refine Z_iconst (v := 3) hC dX8_runs_26 rfl ?_
      refine Z_icmp_ne (tgt := 36) hC dX8_runs_27 (by decide) (fun c11 => ?_) (fun c11 => ?_)
      · have k := k.1 c11
        refine Z_aload_n hC dX8_runs_36 rfl rfl ?_
        refine Z_get (o := 0) (c := 8) (k := 1) (v := .ref (ad 2 0)) hC rfl zs_8 lkX8_16 rfl dX8_runs_37 ?_
        refine Z_iload_n hC dX8_runs_40 rfl rfl ?_
        obtain ⟨s12, h13, k⟩ := k
        refine Z_callV (As := [.int x1]) (rest := []) hC h13 cvX8_208 ⟨0, rfl, zs_0, _, rfl, rfl⟩ rfl rfl (Nat.le_of_ble_eq_true rfl) dX8_runs_41 ?_
        refine Z_iload_n hC dX8_runs_44 rfl rfl ?_
        by_cases c14 : x2 = 0
        · have c14x : (x2).toInt = 0 := by rw [c14]; rfl
          have k := k.1 c14
          refine Z_look (off := 27) (tgt := 72) hC dX8_runs_45 rfl (by rw [c14x]; try rfl) (by decide) ?_
          refine Z_aload_n hC dX8_runs_72 rfl rfl ?_
          refine Z_get (o := 0) (c := 8) (k := 1) (v := .ref (ad 2 0)) hC rfl zs_8 lkX8_16 rfl dX8_runs_73 ?_
          refine Z_get (o := 2) (c := 0) (k := 12) (v := .int ((s12 2).1 12)) hC rfl zs_0 lkX8_212 rfl dX8_runs_76 ?_
          exact Z_iret hC dX8_runs_79 k.1 k.2
        by_cases c15 : x2 = 1
        · have c15x : (x2).toInt = 1 := by rw [c15]; rfl
          have k := k.2.1 c15
          refine Z_look (off := 35) (tgt := 80) hC dX8_runs_45 rfl (by rw [c15x]; try rfl) (by decide) ?_
          refine Z_aload_n hC dX8_runs_80 rfl rfl ?_
          obtain ⟨r17, s16, h18, k⟩ := k
          refine Z_callV (As := []) (rest := []) hC h18 cvX8_218 ⟨8, rfl, zs_8, _, rfl, rfl⟩ rfl rfl (Nat.le_of_ble_eq_true rfl) dX8_runs_81 ?_
          exact Z_iret hC dX8_runs_84 k.1 k.2
        have k := k.2.2 ⟨c14, c15⟩
        refine Z_look (off := 40) (tgt := 85) hC dX8_runs_45 rfl ((lv_osw (k := 0) c14 rfl).trans ((lv_osw (k := 1) c15 rfl).trans (rfl))) (by decide) ?_
        refine Z_aload_n hC dX8_runs_85 rfl rfl ?_
        refine Z_get (o := 0) (c := 8) (k := 1) (v := .ref (ad 2 0)) hC rfl zs_8 lkX8_16 rfl dX8_runs_86 ?_
        refine Z_get (o := 2) (c := 0) (k := 13) (v := .int ((s12 2).1 13)) hC rfl zs_0 lkX8_221 rfl dX8_runs_89 ?_
        exact Z_iret hC dX8_runs_92 k.1 k.2
      · have k := k.2 c11
        refine Z_aload_n hC dX8_runs_30 rfl rfl ?_
        refine Z_iload_n hC dX8_runs_31 rfl rfl ?_
        obtain ⟨r20, s19, h21, k⟩ := k
        refine Z_callV (As := [.int x1]) (rest := []) hC h21 cvX8_215 ⟨8, rfl, zs_8, _, rfl, rfl⟩ rfl rfl (Nat.le_of_ble_eq_true rfl) dX8_runs_32 ?_
        exact Z_iret hC dX8_runs_35 k.1 k.2
    · have k := k.2 c8
      refine Z_iconst (v := (-1)) hC dX8_runs_19 rfl ?_
      exact Z_iret hC dX8_runs_20 k.1 k.2
theorem eX8_runs {x1 : Int32} {x2 : Int32} {X : Option Value} {Y : ZS} {s : ZS} (k : (∃ (r2 : Int32) (s1 : ZS), Ev l ad D ia d mX8_outside [.int x1, .int 0, .int 60] s (some (.int r2)) s1 ∧ ((¬ r2 = 0 → (X = some (.int ((-1))) ∧ Y = s1)) ∧ (r2 = 0 → (∃ (r6 : Int32) (s5 : ZS), Ev l ad D ia d mX8_outside [.int x2, .int 0, .int 3] s1 (some (.int r6)) s5 ∧ ((r6 = 0 → (∃ s9 : ZS, Ev l ad D ia d mX8_beginTrial [.ref (ad 0 0)] s5 none s9 ∧ ((¬ x2 = 3 → (∃ s12 : ZS, Ev l ad D ia d mX0_passDays [.ref (ad 2 0), .int x1] s9 none s12 ∧ ((x2 = 0 → (X = some (.int ((s12 2).1 12)) ∧ Y = s12)) ∧ (x2 = 1 → (∃ (r17 : Int32) (s16 : ZS), Ev l ad D ia d mX8_trialMinutes [.ref (ad 0 0)] s12 (some (.int r17)) s16 ∧ (X = some (.int r17) ∧ Y = s16))) ∧ ((¬ x2 = 0 ∧ ¬ x2 = 1) → (X = some (.int ((s12 2).1 13)) ∧ Y = s12))))) ∧ (x2 = 3 → (∃ (r20 : Int32) (s19 : ZS), Ev l ad D ia d mX8_daysTillAllDone [.ref (ad 0 0), .int x1] s9 (some (.int r20)) s19 ∧ (X = some (.int r20) ∧ Y = s19)))))) ∧ (¬ r6 = 0 → (X = some (.int ((-1))) ∧ Y = s5)))))))) : Ev l ad D ia (d + 1) mX8_runs [.ref (ad 0 0), .int x1, .int x2] s X Y :=
  Ev.start (by decide +kernel) (Nat.le_of_ble_eq_true rfl) (fun C hC => bX8_runs_0  hC k)
set_option maxRecDepth 100000 in
set_option maxHeartbeats 4000000 in
theorem bX8_ahead_0 {x1 : Int32} {x2 : Int32} {x3 : Int32} {C : ZC} {X : Option Value} {Y : ZS} {s : ZS} (hC : Zok ad D ia C (d + 1) cX8_ahead 4 RX8 (some .int)) (k : (∃ (r2 : Int32) (s1 : ZS), Ev l ad D ia d mX0_hasReader [.ref (ad 1 0), .int x1] s (some (.int r2)) s1 ∧ ((r2 = 0 → (X = some (.int ((-1))) ∧ Y = s1)) ∧ (¬ r2 = 0 → (∃ (r6 : Int32) (s5 : ZS), Ev l ad D ia d mX8_outside [.int x2, .int 0, .int 60] s1 (some (.int r6)) s5 ∧ ((¬ r6 = 0 → (X = some (.int ((-1))) ∧ Y = s5)) ∧ (r6 = 0 → (∃ (r10 : Int32) (s9 : ZS), Ev l ad D ia d mX8_outside [.int x3, .int 0, .int 1] s5 (some (.int r10)) s9 ∧ ((r10 = 0 → (∃ s13 : ZS, Ev l ad D ia d mX8_beginTrial [.ref (ad 0 0)] s9 none s13 ∧ (∃ s15 : ZS, Ev l ad D ia d mX0_passDaysOf [.ref (ad 2 0), .int x1, .int x2] s13 none s15 ∧ ((¬ x3 = 0 → (vp_in x1 4 ∧ (X = some (.int ((s15 2).2.2 8 x1.toNatClampNeg)) ∧ Y = s15))) ∧ (x3 = 0 → (vp_in x1 4 ∧ (X = some (.int ((s15 2).2.2 6 x1.toNatClampNeg)) ∧ Y = s15))))))) ∧ (¬ r10 = 0 → (X = some (.int ((-1))) ∧ Y = s9))))))))))) : Z l ad D ia C X Y 0 [(0, .ref (ad 0 0)), (1, .int x1), (2, .int x2), (3, .int x3)] [] s := by
  refine Z_aload_n hC dX8_ahead_0 rfl rfl ?_
  refine Z_get (o := 0) (c := 8) (k := 0) (v := .ref (ad 1 0)) hC rfl zs_8 lkX8_10 rfl dX8_ahead_1 ?_
  refine Z_iload_n hC dX8_ahead_4 rfl rfl ?_
  obtain ⟨r2, s1, h3, k⟩ := k
  refine Z_callV (As := [.int x1]) (rest := []) hC h3 cvX8_159 ⟨0, rfl, zs_0, _, rfl, rfl⟩ rfl rfl (Nat.le_of_ble_eq_true rfl) dX8_ahead_5 ?_
  refine Z_if_eq (tgt := 30) hC dX8_ahead_8 (by decide) (fun c4 => ?_) (fun c4 => ?_)
  · have k := k.1 c4
    refine Z_iconst (v := (-1)) hC dX8_ahead_30 rfl ?_
    exact Z_iret hC dX8_ahead_31 k.1 k.2
  · have k := k.2 c4
    refine Z_iload_n hC dX8_ahead_11 rfl rfl ?_
    refine Z_iconst (v := 0) hC dX8_ahead_12 rfl ?_
    refine Z_bipush (v := 60) hC dX8_ahead_13 rfl ?_
    obtain ⟨r6, s5, h7, k⟩ := k
    refine Z_callS (As := [.int x2, .int 0, .int 60]) (rest := []) hC h7 csX8_68 rfl rfl (Nat.le_of_ble_eq_true rfl) dX8_ahead_15 ?_
    refine Z_if_ne (tgt := 30) hC dX8_ahead_18 (by decide) (fun c8 => ?_) (fun c8 => ?_)
    · have k := k.1 c8
      refine Z_iconst (v := (-1)) hC dX8_ahead_30 rfl ?_
      exact Z_iret hC dX8_ahead_31 k.1 k.2
    · have k := k.2 c8
      refine Z_iload_n hC dX8_ahead_21 rfl rfl ?_
      refine Z_iconst (v := 0) hC dX8_ahead_22 rfl ?_
      refine Z_iconst (v := 1) hC dX8_ahead_23 rfl ?_
      obtain ⟨r10, s9, h11, k⟩ := k
      refine Z_callS (As := [.int x3, .int 0, .int 1]) (rest := []) hC h11 csX8_68 rfl rfl (Nat.le_of_ble_eq_true rfl) dX8_ahead_24 ?_
      refine Z_if_eq (tgt := 32) hC dX8_ahead_27 (by decide) (fun c12 => ?_) (fun c12 => ?_)
      · have k := k.1 c12
        refine Z_aload_n hC dX8_ahead_32 rfl rfl ?_
        obtain ⟨s13, h14, k⟩ := k
        refine Z_callV (As := []) (rest := []) hC h14 cvX8_205 ⟨8, rfl, zs_8, _, rfl, rfl⟩ rfl rfl (Nat.le_of_ble_eq_true rfl) dX8_ahead_33 ?_
        refine Z_aload_n hC dX8_ahead_36 rfl rfl ?_
        refine Z_get (o := 0) (c := 8) (k := 1) (v := .ref (ad 2 0)) hC rfl zs_8 lkX8_16 rfl dX8_ahead_37 ?_
        refine Z_iload_n hC dX8_ahead_40 rfl rfl ?_
        refine Z_iload_n hC dX8_ahead_41 rfl rfl ?_
        obtain ⟨s15, h16, k⟩ := k
        refine Z_callV (As := [.int x1, .int x2]) (rest := []) hC h16 cvX8_224 ⟨0, rfl, zs_0, _, rfl, rfl⟩ rfl rfl (Nat.le_of_ble_eq_true rfl) dX8_ahead_42 ?_
        refine Z_iload_n hC dX8_ahead_45 rfl rfl ?_
        refine Z_if_ne (tgt := 61) hC dX8_ahead_46 (by decide) (fun c17 => ?_) (fun c17 => ?_)
        · have k := k.1 c17
          refine Z_aload_n hC dX8_ahead_61 rfl rfl ?_
          refine Z_get (o := 0) (c := 8) (k := 1) (v := .ref (ad 2 0)) hC rfl zs_8 lkX8_16 rfl dX8_ahead_62 ?_
          refine Z_get (o := 2) (c := 0) (k := 8) (v := .ref (ad 2 9)) hC rfl zs_0 lkX8_171 rfl dX8_ahead_65 ?_
          refine Z_iload_n hC dX8_ahead_68 rfl rfl ?_
          obtain ⟨h18, k⟩ := k
          refine Z_iald (o := 2) (k := 8) hC (zis_of rfl rfl) h18 dX8_ahead_69 ?_
          exact Z_iret hC dX8_ahead_70 k.1 k.2
        · have k := k.2 c17
          refine Z_aload_n hC dX8_ahead_49 rfl rfl ?_
          refine Z_get (o := 0) (c := 8) (k := 1) (v := .ref (ad 2 0)) hC rfl zs_8 lkX8_16 rfl dX8_ahead_50 ?_
          refine Z_get (o := 2) (c := 0) (k := 6) (v := .ref (ad 2 7)) hC rfl zs_0 lkX8_165 rfl dX8_ahead_53 ?_
          refine Z_iload_n hC dX8_ahead_56 rfl rfl ?_
          obtain ⟨h19, k⟩ := k
          refine Z_iald (o := 2) (k := 6) hC (zis_of rfl rfl) h19 dX8_ahead_57 ?_
          refine Z_goto (tgt := 70) hC dX8_ahead_58 (by decide) ?_
          exact Z_iret hC dX8_ahead_70 k.1 k.2
      · have k := k.2 c12
        refine Z_iconst (v := (-1)) hC dX8_ahead_30 rfl ?_
        exact Z_iret hC dX8_ahead_31 k.1 k.2
theorem eX8_ahead {x1 : Int32} {x2 : Int32} {x3 : Int32} {X : Option Value} {Y : ZS} {s : ZS} (k : (∃ (r2 : Int32) (s1 : ZS), Ev l ad D ia d mX0_hasReader [.ref (ad 1 0), .int x1] s (some (.int r2)) s1 ∧ ((r2 = 0 → (X = some (.int ((-1))) ∧ Y = s1)) ∧ (¬ r2 = 0 → (∃ (r6 : Int32) (s5 : ZS), Ev l ad D ia d mX8_outside [.int x2, .int 0, .int 60] s1 (some (.int r6)) s5 ∧ ((¬ r6 = 0 → (X = some (.int ((-1))) ∧ Y = s5)) ∧ (r6 = 0 → (∃ (r10 : Int32) (s9 : ZS), Ev l ad D ia d mX8_outside [.int x3, .int 0, .int 1] s5 (some (.int r10)) s9 ∧ ((r10 = 0 → (∃ s13 : ZS, Ev l ad D ia d mX8_beginTrial [.ref (ad 0 0)] s9 none s13 ∧ (∃ s15 : ZS, Ev l ad D ia d mX0_passDaysOf [.ref (ad 2 0), .int x1, .int x2] s13 none s15 ∧ ((¬ x3 = 0 → (vp_in x1 4 ∧ (X = some (.int ((s15 2).2.2 8 x1.toNatClampNeg)) ∧ Y = s15))) ∧ (x3 = 0 → (vp_in x1 4 ∧ (X = some (.int ((s15 2).2.2 6 x1.toNatClampNeg)) ∧ Y = s15))))))) ∧ (¬ r10 = 0 → (X = some (.int ((-1))) ∧ Y = s9))))))))))) : Ev l ad D ia (d + 1) mX8_ahead [.ref (ad 0 0), .int x1, .int x2, .int x3] s X Y :=
  Ev.start (by decide +kernel) (Nat.le_of_ble_eq_true rfl) (fun C hC => bX8_ahead_0  hC k)
set_option maxRecDepth 100000 in
set_option maxHeartbeats 4000000 in
theorem bX8_done_0 {x1 : Int32} {C : ZC} {X : Option Value} {Y : ZS} {s : ZS} (hC : Zok ad D ia C (d + 1) cX8_done 2 RX8 (some .int)) (k : (∃ (r2 : Int32) (s1 : ZS), Ev l ad D ia d mX0_hasReader [.ref (ad 1 0), .int x1] s (some (.int r2)) s1 ∧ ((¬ r2 = 0 → (∃ s5 : ZS, Ev l ad D ia d mX8_beginTrial [.ref (ad 0 0)] s1 none s5 ∧ (∃ (r8 : Int32) (s7 : ZS), Ev l ad D ia d mX0_daysTillDone [.ref (ad 2 0), .int x1, .int 60] s5 (some (.int r8)) s7 ∧ (X = some (.int r8) ∧ Y = s7)))) ∧ (r2 = 0 → (X = some (.int ((-1))) ∧ Y = s1))))) : Z l ad D ia C X Y 0 [(0, .ref (ad 0 0)), (1, .int x1)] [] s := by
  refine Z_aload_n hC dX8_done_0 rfl rfl ?_
  refine Z_get (o := 0) (c := 8) (k := 0) (v := .ref (ad 1 0)) hC rfl zs_8 lkX8_10 rfl dX8_done_1 ?_
  refine Z_iload_n hC dX8_done_4 rfl rfl ?_
  obtain ⟨r2, s1, h3, k⟩ := k
  refine Z_callV (As := [.int x1]) (rest := []) hC h3 cvX8_159 ⟨0, rfl, zs_0, _, rfl, rfl⟩ rfl rfl (Nat.le_of_ble_eq_true rfl) dX8_done_5 ?_
  refine Z_if_ne (tgt := 13) hC dX8_done_8 (by decide) (fun c4 => ?_) (fun c4 => ?_)
  · have k := k.1 c4
    refine Z_aload_n hC dX8_done_13 rfl rfl ?_
    obtain ⟨s5, h6, k⟩ := k
    refine Z_callV (As := []) (rest := []) hC h6 cvX8_205 ⟨8, rfl, zs_8, _, rfl, rfl⟩ rfl rfl (Nat.le_of_ble_eq_true rfl) dX8_done_14 ?_
    refine Z_aload_n hC dX8_done_17 rfl rfl ?_
    refine Z_get (o := 0) (c := 8) (k := 1) (v := .ref (ad 2 0)) hC rfl zs_8 lkX8_16 rfl dX8_done_18 ?_
    refine Z_iload_n hC dX8_done_21 rfl rfl ?_
    refine Z_bipush (v := 60) hC dX8_done_22 rfl ?_
    obtain ⟨r8, s7, h9, k⟩ := k
    refine Z_callV (As := [.int x1, .int 60]) (rest := []) hC h9 cvX8_228 ⟨0, rfl, zs_0, _, rfl, rfl⟩ rfl rfl (Nat.le_of_ble_eq_true rfl) dX8_done_24 ?_
    exact Z_iret hC dX8_done_27 k.1 k.2
  · have k := k.2 c4
    refine Z_iconst (v := (-1)) hC dX8_done_11 rfl ?_
    exact Z_iret hC dX8_done_12 k.1 k.2
theorem eX8_done {x1 : Int32} {X : Option Value} {Y : ZS} {s : ZS} (k : (∃ (r2 : Int32) (s1 : ZS), Ev l ad D ia d mX0_hasReader [.ref (ad 1 0), .int x1] s (some (.int r2)) s1 ∧ ((¬ r2 = 0 → (∃ s5 : ZS, Ev l ad D ia d mX8_beginTrial [.ref (ad 0 0)] s1 none s5 ∧ (∃ (r8 : Int32) (s7 : ZS), Ev l ad D ia d mX0_daysTillDone [.ref (ad 2 0), .int x1, .int 60] s5 (some (.int r8)) s7 ∧ (X = some (.int r8) ∧ Y = s7)))) ∧ (r2 = 0 → (X = some (.int ((-1))) ∧ Y = s1))))) : Ev l ad D ia (d + 1) mX8_done [.ref (ad 0 0), .int x1] s X Y :=
  Ev.start (by decide +kernel) (Nat.le_of_ble_eq_true rfl) (fun C hC => bX8_done_0  hC k)
set_option maxRecDepth 100000 in
set_option maxHeartbeats 4000000 in
theorem bX8_vertigo_0 {x1 : Int32} {C : ZC} {X : Option Value} {Y : ZS} {s : ZS} (hC : Zok ad D ia C (d + 1) cX8_vertigo 2 RX8 (some .int)) (k : (∃ (r2 : Int32) (s1 : ZS), Ev l ad D ia d mX0_hasReader [.ref (ad 1 0), .int x1] s (some (.int r2)) s1 ∧ ((¬ r2 = 0 → (∃ s5 : ZS, Ev l ad D ia d mX8_beginTrial [.ref (ad 0 0)] s1 none s5 ∧ (∃ (r8 : Int32) (s7 : ZS), Ev l ad D ia d mX0_spendDay [.ref (ad 2 0), .int x1] s5 (some (.int r8)) s7 ∧ (X = some (.int r8) ∧ Y = s7)))) ∧ (r2 = 0 → (X = some (.int ((-1))) ∧ Y = s1))))) : Z l ad D ia C X Y 0 [(0, .ref (ad 0 0)), (1, .int x1)] [] s := by
  refine Z_aload_n hC dX8_vertigo_0 rfl rfl ?_
  refine Z_get (o := 0) (c := 8) (k := 0) (v := .ref (ad 1 0)) hC rfl zs_8 lkX8_10 rfl dX8_vertigo_1 ?_
  refine Z_iload_n hC dX8_vertigo_4 rfl rfl ?_
  obtain ⟨r2, s1, h3, k⟩ := k
  refine Z_callV (As := [.int x1]) (rest := []) hC h3 cvX8_159 ⟨0, rfl, zs_0, _, rfl, rfl⟩ rfl rfl (Nat.le_of_ble_eq_true rfl) dX8_vertigo_5 ?_
  refine Z_if_ne (tgt := 13) hC dX8_vertigo_8 (by decide) (fun c4 => ?_) (fun c4 => ?_)
  · have k := k.1 c4
    refine Z_aload_n hC dX8_vertigo_13 rfl rfl ?_
    obtain ⟨s5, h6, k⟩ := k
    refine Z_callV (As := []) (rest := []) hC h6 cvX8_205 ⟨8, rfl, zs_8, _, rfl, rfl⟩ rfl rfl (Nat.le_of_ble_eq_true rfl) dX8_vertigo_14 ?_
    refine Z_aload_n hC dX8_vertigo_17 rfl rfl ?_
    refine Z_get (o := 0) (c := 8) (k := 1) (v := .ref (ad 2 0)) hC rfl zs_8 lkX8_16 rfl dX8_vertigo_18 ?_
    refine Z_iload_n hC dX8_vertigo_21 rfl rfl ?_
    obtain ⟨r8, s7, h9, k⟩ := k
    refine Z_callV (As := [.int x1]) (rest := []) hC h9 cvX8_231 ⟨0, rfl, zs_0, _, rfl, rfl⟩ rfl rfl (Nat.le_of_ble_eq_true rfl) dX8_vertigo_22 ?_
    exact Z_iret hC dX8_vertigo_25 k.1 k.2
  · have k := k.2 c4
    refine Z_iconst (v := (-1)) hC dX8_vertigo_11 rfl ?_
    exact Z_iret hC dX8_vertigo_12 k.1 k.2
theorem eX8_vertigo {x1 : Int32} {X : Option Value} {Y : ZS} {s : ZS} (k : (∃ (r2 : Int32) (s1 : ZS), Ev l ad D ia d mX0_hasReader [.ref (ad 1 0), .int x1] s (some (.int r2)) s1 ∧ ((¬ r2 = 0 → (∃ s5 : ZS, Ev l ad D ia d mX8_beginTrial [.ref (ad 0 0)] s1 none s5 ∧ (∃ (r8 : Int32) (s7 : ZS), Ev l ad D ia d mX0_spendDay [.ref (ad 2 0), .int x1] s5 (some (.int r8)) s7 ∧ (X = some (.int r8) ∧ Y = s7)))) ∧ (r2 = 0 → (X = some (.int ((-1))) ∧ Y = s1))))) : Ev l ad D ia (d + 1) mX8_vertigo [.ref (ad 0 0), .int x1] s X Y :=
  Ev.start (by decide +kernel) (Nat.le_of_ble_eq_true rfl) (fun C hC => bX8_vertigo_0  hC k)
set_option maxRecDepth 100000 in
set_option maxHeartbeats 4000000 in
theorem bX8_order_0 {x1 : Int32} {C : ZC} {X : Option Value} {Y : ZS} {s : ZS} (hC : Zok ad D ia C (d + 1) cX8_order 3 RX8 (some .int)) (k : ((x1 = 0 → (∃ (r3 : Int32) (s2 : ZS), Ev l ad D ia d mX8_findOrder [.ref (ad 0 0)] s (some (.int r3)) s2 ∧ ((¬ x1 = 0 → (vp_in (x1 - 10) 4 ∧ (X = some (.int ((s2 0).2.2 9 (x1 - 10).toNatClampNeg)) ∧ Y = s2))) ∧ (x1 = 0 → (X = some (.int r3) ∧ Y = s2))))) ∧ (¬ x1 = 0 → (∃ (r8 : Int32) (s7 : ZS), Ev l ad D ia d mX8_outside [.int x1, .int 10, .int (9 + ((s 1).1 4))] s (some (.int r8)) s7 ∧ ((r8 = 0 → (∃ (r12 : Int32) (s11 : ZS), Ev l ad D ia d mX8_findOrder [.ref (ad 0 0)] s7 (some (.int r12)) s11 ∧ ((¬ x1 = 0 → (vp_in (x1 - 10) 4 ∧ (X = some (.int ((s11 0).2.2 9 (x1 - 10).toNatClampNeg)) ∧ Y = s11))) ∧ (x1 = 0 → (X = some (.int r12) ∧ Y = s11))))) ∧ (¬ r8 = 0 → (X = some (.int ((-1))) ∧ Y = s7))))))) : Z l ad D ia C X Y 0 [(0, .ref (ad 0 0)), (1, .int x1)] [] s := by
  refine Z_iload_n hC dX8_order_0 rfl rfl ?_
  refine Z_if_eq (tgt := 25) hC dX8_order_1 (by decide) (fun c1 => ?_) (fun c1 => ?_)
  · have k := k.1 c1
    refine Z_aload_n hC dX8_order_25 rfl rfl ?_
    obtain ⟨r3, s2, h4, k⟩ := k
    refine Z_callV (As := []) (rest := []) hC h4 cvX8_234 ⟨8, rfl, zs_8, _, rfl, rfl⟩ rfl rfl (Nat.le_of_ble_eq_true rfl) dX8_order_26 ?_
    refine Z_istore_n (V2 := [(2, .int r3), (0, .ref (ad 0 0)), (1, .int x1)]) hC dX8_order_29 rfl (by decide) rfl ?_
    refine Z_iload_n hC dX8_order_30 rfl rfl ?_
    refine Z_if_ne (tgt := 38) hC dX8_order_31 (by decide) (fun c5 => ?_) (fun c5 => ?_)
    · have k := k.1 c5
      refine Z_aload_n hC dX8_order_38 rfl rfl ?_
      refine Z_get (o := 0) (c := 8) (k := 9) (v := .ref (ad 0 10)) hC rfl zs_8 lkX8_49 rfl dX8_order_39 ?_
      refine Z_iload_n hC dX8_order_42 rfl rfl ?_
      refine Z_bipush (v := 10) hC dX8_order_43 rfl ?_
      refine Z_isub hC dX8_order_45 ?_
      obtain ⟨h6, k⟩ := k
      refine Z_iald (o := 0) (k := 9) hC (zis_of rfl rfl) h6 dX8_order_46 ?_
      exact Z_iret hC dX8_order_47 k.1 k.2
    · have k := k.2 c5
      refine Z_iload_n hC dX8_order_34 rfl rfl ?_
      refine Z_goto (tgt := 47) hC dX8_order_35 (by decide) ?_
      exact Z_iret hC dX8_order_47 k.1 k.2
  · have k := k.2 c1
    refine Z_iload_n hC dX8_order_4 rfl rfl ?_
    refine Z_bipush (v := 10) hC dX8_order_5 rfl ?_
    refine Z_bipush (v := 9) hC dX8_order_7 rfl ?_
    refine Z_aload_n hC dX8_order_9 rfl rfl ?_
    refine Z_get (o := 0) (c := 8) (k := 0) (v := .ref (ad 1 0)) hC rfl zs_8 lkX8_10 rfl dX8_order_10 ?_
    refine Z_get (o := 1) (c := 0) (k := 4) (v := .int ((s 1).1 4)) hC rfl zs_0 lkX8_126 rfl dX8_order_13 ?_
    refine Z_iadd hC dX8_order_16 ?_
    obtain ⟨r8, s7, h9, k⟩ := k
    refine Z_callS (As := [.int x1, .int 10, .int (9 + ((s 1).1 4))]) (rest := []) hC h9 csX8_68 rfl rfl (Nat.le_of_ble_eq_true rfl) dX8_order_17 ?_
    refine Z_if_eq (tgt := 25) hC dX8_order_20 (by decide) (fun c10 => ?_) (fun c10 => ?_)
    · have k := k.1 c10
      refine Z_aload_n hC dX8_order_25 rfl rfl ?_
      obtain ⟨r12, s11, h13, k⟩ := k
      refine Z_callV (As := []) (rest := []) hC h13 cvX8_234 ⟨8, rfl, zs_8, _, rfl, rfl⟩ rfl rfl (Nat.le_of_ble_eq_true rfl) dX8_order_26 ?_
      refine Z_istore_n (V2 := [(2, .int r12), (0, .ref (ad 0 0)), (1, .int x1)]) hC dX8_order_29 rfl (by decide) rfl ?_
      refine Z_iload_n hC dX8_order_30 rfl rfl ?_
      refine Z_if_ne (tgt := 38) hC dX8_order_31 (by decide) (fun c14 => ?_) (fun c14 => ?_)
      · have k := k.1 c14
        refine Z_aload_n hC dX8_order_38 rfl rfl ?_
        refine Z_get (o := 0) (c := 8) (k := 9) (v := .ref (ad 0 10)) hC rfl zs_8 lkX8_49 rfl dX8_order_39 ?_
        refine Z_iload_n hC dX8_order_42 rfl rfl ?_
        refine Z_bipush (v := 10) hC dX8_order_43 rfl ?_
        refine Z_isub hC dX8_order_45 ?_
        obtain ⟨h15, k⟩ := k
        refine Z_iald (o := 0) (k := 9) hC (zis_of rfl rfl) h15 dX8_order_46 ?_
        exact Z_iret hC dX8_order_47 k.1 k.2
      · have k := k.2 c14
        refine Z_iload_n hC dX8_order_34 rfl rfl ?_
        refine Z_goto (tgt := 47) hC dX8_order_35 (by decide) ?_
        exact Z_iret hC dX8_order_47 k.1 k.2
    · have k := k.2 c10
      refine Z_iconst (v := (-1)) hC dX8_order_23 rfl ?_
      exact Z_iret hC dX8_order_24 k.1 k.2
theorem eX8_order {x1 : Int32} {X : Option Value} {Y : ZS} {s : ZS} (k : ((x1 = 0 → (∃ (r3 : Int32) (s2 : ZS), Ev l ad D ia d mX8_findOrder [.ref (ad 0 0)] s (some (.int r3)) s2 ∧ ((¬ x1 = 0 → (vp_in (x1 - 10) 4 ∧ (X = some (.int ((s2 0).2.2 9 (x1 - 10).toNatClampNeg)) ∧ Y = s2))) ∧ (x1 = 0 → (X = some (.int r3) ∧ Y = s2))))) ∧ (¬ x1 = 0 → (∃ (r8 : Int32) (s7 : ZS), Ev l ad D ia d mX8_outside [.int x1, .int 10, .int (9 + ((s 1).1 4))] s (some (.int r8)) s7 ∧ ((r8 = 0 → (∃ (r12 : Int32) (s11 : ZS), Ev l ad D ia d mX8_findOrder [.ref (ad 0 0)] s7 (some (.int r12)) s11 ∧ ((¬ x1 = 0 → (vp_in (x1 - 10) 4 ∧ (X = some (.int ((s11 0).2.2 9 (x1 - 10).toNatClampNeg)) ∧ Y = s11))) ∧ (x1 = 0 → (X = some (.int r12) ∧ Y = s11))))) ∧ (¬ r8 = 0 → (X = some (.int ((-1))) ∧ Y = s7))))))) : Ev l ad D ia (d + 1) mX8_order [.ref (ad 0 0), .int x1] s X Y :=
  Ev.start (by decide +kernel) (Nat.le_of_ble_eq_true rfl) (fun C hC => bX8_order_0  hC k)
set_option maxRecDepth 100000 in
set_option maxHeartbeats 4000000 in
theorem bX8_start_0 {x1 : Int32} {x2 : Int32} {C : ZC} {X : Option Value} {Y : ZS} {s : ZS} (hC : Zok ad D ia C (d + 1) cX8_start 6 RX8 (some .int)) (k : (∃ (r2 : Int32) (s1 : ZS), Ev l ad D ia d mX8_outside [.int x1, .int 0, .int 60] s (some (.int r2)) s1 ∧ ((¬ r2 = 0 → (X = some (.int ((-1))) ∧ Y = s1)) ∧ (r2 = 0 → (∃ (r6 : Int32) (s5 : ZS), Ev l ad D ia d mX8_outside [.int x2, .int 0, .int 1] s1 (some (.int r6)) s5 ∧ ((r6 = 0 → Z l ad D ia C X Y 31 [(0, .ref (ad 0 0)), (1, .int x1), (2, .int x2), (3, .int ((-4))), (4, .int ((1000000))), (5, .int 0)] [] s5) ∧ (¬ r6 = 0 → (X = some (.int ((-1))) ∧ Y = s5)))))))) : Z l ad D ia C X Y 0 [(0, .ref (ad 0 0)), (1, .int x1), (2, .int x2)] [] s := by
  refine Z_iload_n hC dX8_start_0 rfl rfl ?_
  refine Z_iconst (v := 0) hC dX8_start_1 rfl ?_
  refine Z_bipush (v := 60) hC dX8_start_2 rfl ?_
  obtain ⟨r2, s1, h3, k⟩ := k
  refine Z_callS (As := [.int x1, .int 0, .int 60]) (rest := []) hC h3 csX8_68 rfl rfl (Nat.le_of_ble_eq_true rfl) dX8_start_4 ?_
  refine Z_if_ne (tgt := 19) hC dX8_start_7 (by decide) (fun c4 => ?_) (fun c4 => ?_)
  · have k := k.1 c4
    refine Z_iconst (v := (-1)) hC dX8_start_19 rfl ?_
    exact Z_iret hC dX8_start_20 k.1 k.2
  · have k := k.2 c4
    refine Z_iload_n hC dX8_start_10 rfl rfl ?_
    refine Z_iconst (v := 0) hC dX8_start_11 rfl ?_
    refine Z_iconst (v := 1) hC dX8_start_12 rfl ?_
    obtain ⟨r6, s5, h7, k⟩ := k
    refine Z_callS (As := [.int x2, .int 0, .int 1]) (rest := []) hC h7 csX8_68 rfl rfl (Nat.le_of_ble_eq_true rfl) dX8_start_13 ?_
    refine Z_if_eq (tgt := 21) hC dX8_start_16 (by decide) (fun c8 => ?_) (fun c8 => ?_)
    · have k := k.1 c8
      refine Z_bipush (v := (-4)) hC dX8_start_21 rfl ?_
      refine Z_istore_n (V2 := [(3, .int ((-4))), (0, .ref (ad 0 0)), (1, .int x1), (2, .int x2)]) hC dX8_start_23 rfl (by decide) rfl ?_
      refine Z_ldc hC cnX8_237 dX8_start_24 ?_
      refine Z_istore (V2 := [(4, .int ((1000000))), (3, .int ((-4))), (0, .ref (ad 0 0)), (1, .int x1), (2, .int x2)]) hC dX8_start_26 (by decide) rfl ?_
      refine Z_iconst (v := 0) hC dX8_start_28 rfl ?_
      refine Z_istore (V2 := [(5, .int 0), (4, .int ((1000000))), (3, .int ((-4))), (0, .ref (ad 0 0)), (1, .int x1), (2, .int x2)]) hC dX8_start_29 (by decide) rfl ?_
      exact Z_pick [3, 4, 5, 2, 1, 0] rfl k
    · have k := k.2 c8
      refine Z_iconst (v := (-1)) hC dX8_start_19 rfl ?_
      exact Z_iret hC dX8_start_20 k.1 k.2
theorem eX8_start {x1 : Int32} {x2 : Int32} {X : Option Value} {Y : ZS} {s : ZS} (k : ∀ C : ZC, Zok ad D ia C (d + 1) cX8_start 6 RX8 (some .int) → (∃ (r2 : Int32) (s1 : ZS), Ev l ad D ia d mX8_outside [.int x1, .int 0, .int 60] s (some (.int r2)) s1 ∧ ((¬ r2 = 0 → (X = some (.int ((-1))) ∧ Y = s1)) ∧ (r2 = 0 → (∃ (r6 : Int32) (s5 : ZS), Ev l ad D ia d mX8_outside [.int x2, .int 0, .int 1] s1 (some (.int r6)) s5 ∧ ((r6 = 0 → Z l ad D ia C X Y 31 [(0, .ref (ad 0 0)), (1, .int x1), (2, .int x2), (3, .int ((-4))), (4, .int ((1000000))), (5, .int 0)] [] s5) ∧ (¬ r6 = 0 → (X = some (.int ((-1))) ∧ Y = s5)))))))) : Ev l ad D ia (d + 1) mX8_start [.ref (ad 0 0), .int x1, .int x2] s X Y :=
  Ev.start (by decide +kernel) (Nat.le_of_ble_eq_true rfl) (fun C hC => bX8_start_0  hC (k C hC))
set_option maxRecDepth 100000 in
set_option maxHeartbeats 4000000 in
theorem bX8_start_31 {x1 : Int32} {x2 : Int32} {x3 : Int32} {x4 : Int32} {x5 : Int32} {C : ZC} {X : Option Value} {Y : ZS} {s : ZS} (hC : Zok ad D ia C (d + 1) cX8_start 6 RX8 (some .int)) (k : ((7 < x5 → ((¬ x2 = 0 → (X = some (.int x4) ∧ Y = s)) ∧ (x2 = 0 → (X = some (.int x3) ∧ Y = s)))) ∧ (¬ 7 < x5 → (∃ s3 : ZS, Ev l ad D ia d mX8_beginTrial [.ref (ad 0 0)] s none s3 ∧ (∀ s5 : ZS, s5 = stI s3 2 9 x5 → (∃ s6 : ZS, Ev l ad D ia d mX0_passDaysTillStill [.ref (ad 2 0), .int x1] s5 none s6 ∧ (∃ (r9 : Int32) (s8 : ZS), Ev l ad D ia d mX8_trialMinutes [.ref (ad 0 0)] s6 (some (.int r9)) s8 ∧ ((x4 ≤ r9 → Z l ad D ia C X Y 31 [(0, .ref (ad 0 0)), (1, .int x1), (2, .int x2), (3, .int x3), (4, .int x4), (5, .int (x5 + 1))] [] s8) ∧ (¬ x4 ≤ r9 → (∃ (r13 : Int32) (s12 : ZS), Ev l ad D ia d mX8_trialMinutes [.ref (ad 0 0)] s8 (some (.int r13)) s12 ∧ Z l ad D ia C X Y 31 [(0, .ref (ad 0 0)), (1, .int x1), (2, .int x2), (3, .int x5), (4, .int r13), (5, .int (x5 + 1))] [] s12)))))))))) : Z l ad D ia C X Y 31 [(0, .ref (ad 0 0)), (1, .int x1), (2, .int x2), (3, .int x3), (4, .int x4), (5, .int x5)] [] s := by
  refine Z_iload hC dX8_start_31 rfl ?_
  refine Z_bipush (v := 7) hC dX8_start_33 rfl ?_
  refine Z_icmp_gt (tgt := 83) hC dX8_start_35 (by decide) (fun c1 => ?_) (fun c1 => ?_)
  · have k := k.1 c1
    refine Z_iload_n hC dX8_start_83 rfl rfl ?_
    refine Z_if_ne (tgt := 91) hC dX8_start_84 (by decide) (fun c2 => ?_) (fun c2 => ?_)
    · have k := k.1 c2
      refine Z_iload hC dX8_start_91 rfl ?_
      exact Z_iret hC dX8_start_93 k.1 k.2
    · have k := k.2 c2
      refine Z_iload_n hC dX8_start_87 rfl rfl ?_
      refine Z_goto (tgt := 93) hC dX8_start_88 (by decide) ?_
      exact Z_iret hC dX8_start_93 k.1 k.2
  · have k := k.2 c1
    refine Z_aload_n hC dX8_start_38 rfl rfl ?_
    obtain ⟨s3, h4, k⟩ := k
    refine Z_callV (As := []) (rest := []) hC h4 cvX8_205 ⟨8, rfl, zs_8, _, rfl, rfl⟩ rfl rfl (Nat.le_of_ble_eq_true rfl) dX8_start_39 ?_
    refine Z_aload_n hC dX8_start_42 rfl rfl ?_
    refine Z_get (o := 0) (c := 8) (k := 1) (v := .ref (ad 2 0)) hC rfl zs_8 lkX8_16 rfl dX8_start_43 ?_
    refine Z_iload hC dX8_start_46 rfl ?_
    refine Z_putI (o := 2) (k := 9) hC rfl zs_0 pkX8_129 rfl rfl (hsX0_9 _ _ _) dX8_start_48 (fun s5 es5 => ?_)
    have k := k s5 es5
    refine Z_aload_n hC dX8_start_51 rfl rfl ?_
    refine Z_get (o := 0) (c := 8) (k := 1) (v := .ref (ad 2 0)) hC rfl zs_8 lkX8_16 rfl dX8_start_52 ?_
    refine Z_iload_n hC dX8_start_55 rfl rfl ?_
    obtain ⟨s6, h7, k⟩ := k
    refine Z_callV (As := [.int x1]) (rest := []) hC h7 cvX8_238 ⟨0, rfl, zs_0, _, rfl, rfl⟩ rfl rfl (Nat.le_of_ble_eq_true rfl) dX8_start_56 ?_
    refine Z_aload_n hC dX8_start_59 rfl rfl ?_
    obtain ⟨r9, s8, h10, k⟩ := k
    refine Z_callV (As := []) (rest := []) hC h10 cvX8_218 ⟨8, rfl, zs_8, _, rfl, rfl⟩ rfl rfl (Nat.le_of_ble_eq_true rfl) dX8_start_60 ?_
    refine Z_iload hC dX8_start_63 rfl ?_
    refine Z_icmp_ge (tgt := 77) hC dX8_start_65 (by decide) (fun c11 => ?_) (fun c11 => ?_)
    · have k := k.1 c11
      refine Z_iinc (v := x5 + 1) (V2 := [(5, .int (x5 + 1)), (0, .ref (ad 0 0)), (1, .int x1), (2, .int x2), (3, .int x3), (4, .int x4)]) hC dX8_start_77 rfl rfl (by decide) rfl ?_
      refine Z_goto (tgt := 31) hC dX8_start_80 (by decide) ?_
      exact Z_pick [1, 2, 3, 4, 5, 0] rfl k
    · have k := k.2 c11
      refine Z_aload_n hC dX8_start_68 rfl rfl ?_
      obtain ⟨r13, s12, h14, k⟩ := k
      refine Z_callV (As := []) (rest := []) hC h14 cvX8_218 ⟨8, rfl, zs_8, _, rfl, rfl⟩ rfl rfl (Nat.le_of_ble_eq_true rfl) dX8_start_69 ?_
      refine Z_istore (V2 := [(4, .int r13), (0, .ref (ad 0 0)), (1, .int x1), (2, .int x2), (3, .int x3), (5, .int x5)]) hC dX8_start_72 (by decide) rfl ?_
      refine Z_iload hC dX8_start_74 rfl ?_
      refine Z_istore_n (V2 := [(3, .int x5), (4, .int r13), (0, .ref (ad 0 0)), (1, .int x1), (2, .int x2), (5, .int x5)]) hC dX8_start_76 rfl (by decide) rfl ?_
      refine Z_iinc (v := x5 + 1) (V2 := [(5, .int (x5 + 1)), (3, .int x5), (4, .int r13), (0, .ref (ad 0 0)), (1, .int x1), (2, .int x2)]) hC dX8_start_77 rfl rfl (by decide) rfl ?_
      refine Z_goto (tgt := 31) hC dX8_start_80 (by decide) ?_
      exact Z_pick [3, 4, 5, 1, 2, 0] rfl k
set_option maxRecDepth 100000 in
set_option maxHeartbeats 4000000 in
theorem bX8_swap_0 {x1 : Int32} {x2 : Int32} {C : ZC} {X : Option Value} {Y : ZS} {s : ZS} (hC : Zok ad D ia C (d + 1) cX8_swap 7 RX8 (some .int)) (k : (∃ (r2 : Int32) (s1 : ZS), Ev l ad D ia d mX8_outside [.int x1, .int 0, .int 60] s (some (.int r2)) s1 ∧ ((¬ r2 = 0 → (X = some (.int ((-1))) ∧ Y = s1)) ∧ (r2 = 0 → (∃ (r6 : Int32) (s5 : ZS), Ev l ad D ia d mX8_outside [.int x2, .int 0, .int 1] s1 (some (.int r6)) s5 ∧ ((r6 = 0 → (∃ s9 : ZS, Ev l ad D ia d mX8_beginTrial [.ref (ad 0 0)] s5 none s9 ∧ (∃ s11 : ZS, Ev l ad D ia d mX0_passDaysTillStill [.ref (ad 2 0), .int x1] s9 none s11 ∧ Z l ad D ia C X Y 48 [(0, .ref (ad 0 0)), (1, .int x1), (2, .int x2), (3, .int ((-4))), (4, .int ((s11 2).1 12)), (5, .int 0)] [] s11))) ∧ (¬ r6 = 0 → (X = some (.int ((-1))) ∧ Y = s5)))))))) : Z l ad D ia C X Y 0 [(0, .ref (ad 0 0)), (1, .int x1), (2, .int x2)] [] s := by
  refine Z_iload_n hC dX8_swap_0 rfl rfl ?_
  refine Z_iconst (v := 0) hC dX8_swap_1 rfl ?_
  refine Z_bipush (v := 60) hC dX8_swap_2 rfl ?_
  obtain ⟨r2, s1, h3, k⟩ := k
  refine Z_callS (As := [.int x1, .int 0, .int 60]) (rest := []) hC h3 csX8_68 rfl rfl (Nat.le_of_ble_eq_true rfl) dX8_swap_4 ?_
  refine Z_if_ne (tgt := 19) hC dX8_swap_7 (by decide) (fun c4 => ?_) (fun c4 => ?_)
  · have k := k.1 c4
    refine Z_iconst (v := (-1)) hC dX8_swap_19 rfl ?_
    exact Z_iret hC dX8_swap_20 k.1 k.2
  · have k := k.2 c4
    refine Z_iload_n hC dX8_swap_10 rfl rfl ?_
    refine Z_iconst (v := 0) hC dX8_swap_11 rfl ?_
    refine Z_iconst (v := 1) hC dX8_swap_12 rfl ?_
    obtain ⟨r6, s5, h7, k⟩ := k
    refine Z_callS (As := [.int x2, .int 0, .int 1]) (rest := []) hC h7 csX8_68 rfl rfl (Nat.le_of_ble_eq_true rfl) dX8_swap_13 ?_
    refine Z_if_eq (tgt := 21) hC dX8_swap_16 (by decide) (fun c8 => ?_) (fun c8 => ?_)
    · have k := k.1 c8
      refine Z_aload_n hC dX8_swap_21 rfl rfl ?_
      obtain ⟨s9, h10, k⟩ := k
      refine Z_callV (As := []) (rest := []) hC h10 cvX8_205 ⟨8, rfl, zs_8, _, rfl, rfl⟩ rfl rfl (Nat.le_of_ble_eq_true rfl) dX8_swap_22 ?_
      refine Z_aload_n hC dX8_swap_25 rfl rfl ?_
      refine Z_get (o := 0) (c := 8) (k := 1) (v := .ref (ad 2 0)) hC rfl zs_8 lkX8_16 rfl dX8_swap_26 ?_
      refine Z_iload_n hC dX8_swap_29 rfl rfl ?_
      obtain ⟨s11, h12, k⟩ := k
      refine Z_callV (As := [.int x1]) (rest := []) hC h12 cvX8_238 ⟨0, rfl, zs_0, _, rfl, rfl⟩ rfl rfl (Nat.le_of_ble_eq_true rfl) dX8_swap_30 ?_
      refine Z_bipush (v := (-4)) hC dX8_swap_33 rfl ?_
      refine Z_istore_n (V2 := [(3, .int ((-4))), (0, .ref (ad 0 0)), (1, .int x1), (2, .int x2)]) hC dX8_swap_35 rfl (by decide) rfl ?_
      refine Z_aload_n hC dX8_swap_36 rfl rfl ?_
      refine Z_get (o := 0) (c := 8) (k := 1) (v := .ref (ad 2 0)) hC rfl zs_8 lkX8_16 rfl dX8_swap_37 ?_
      refine Z_get (o := 2) (c := 0) (k := 12) (v := .int ((s11 2).1 12)) hC rfl zs_0 lkX8_212 rfl dX8_swap_40 ?_
      refine Z_istore (V2 := [(4, .int ((s11 2).1 12)), (3, .int ((-4))), (0, .ref (ad 0 0)), (1, .int x1), (2, .int x2)]) hC dX8_swap_43 (by decide) rfl ?_
      refine Z_iconst (v := 0) hC dX8_swap_45 rfl ?_
      refine Z_istore (V2 := [(5, .int 0), (4, .int ((s11 2).1 12)), (3, .int ((-4))), (0, .ref (ad 0 0)), (1, .int x1), (2, .int x2)]) hC dX8_swap_46 (by decide) rfl ?_
      exact Z_pick [3, 4, 5, 2, 1, 0] rfl k
    · have k := k.2 c8
      refine Z_iconst (v := (-1)) hC dX8_swap_19 rfl ?_
      exact Z_iret hC dX8_swap_20 k.1 k.2
theorem eX8_swap {x1 : Int32} {x2 : Int32} {X : Option Value} {Y : ZS} {s : ZS} (k : ∀ C : ZC, Zok ad D ia C (d + 1) cX8_swap 7 RX8 (some .int) → (∃ (r2 : Int32) (s1 : ZS), Ev l ad D ia d mX8_outside [.int x1, .int 0, .int 60] s (some (.int r2)) s1 ∧ ((¬ r2 = 0 → (X = some (.int ((-1))) ∧ Y = s1)) ∧ (r2 = 0 → (∃ (r6 : Int32) (s5 : ZS), Ev l ad D ia d mX8_outside [.int x2, .int 0, .int 1] s1 (some (.int r6)) s5 ∧ ((r6 = 0 → (∃ s9 : ZS, Ev l ad D ia d mX8_beginTrial [.ref (ad 0 0)] s5 none s9 ∧ (∃ s11 : ZS, Ev l ad D ia d mX0_passDaysTillStill [.ref (ad 2 0), .int x1] s9 none s11 ∧ Z l ad D ia C X Y 48 [(0, .ref (ad 0 0)), (1, .int x1), (2, .int x2), (3, .int ((-4))), (4, .int ((s11 2).1 12)), (5, .int 0)] [] s11))) ∧ (¬ r6 = 0 → (X = some (.int ((-1))) ∧ Y = s5)))))))) : Ev l ad D ia (d + 1) mX8_swap [.ref (ad 0 0), .int x1, .int x2] s X Y :=
  Ev.start (by decide +kernel) (Nat.le_of_ble_eq_true rfl) (fun C hC => bX8_swap_0  hC (k C hC))
set_option maxRecDepth 100000 in
set_option maxHeartbeats 4000000 in
theorem bX8_swap_48 {x1 : Int32} {x2 : Int32} {x3 : Int32} {x4 : Int32} {x5 : Int32} {C : ZC} {X : Option Value} {Y : ZS} {s : ZS} (hC : Zok ad D ia C (d + 1) cX8_swap 7 RX8 (some .int)) (k : ((((s 1).1 0) ≤ x5 → ((x3 = ((-4)) → (X = some (.int x3) ∧ Y = s)) ∧ (¬ x3 = ((-4)) → ((¬ x2 = 0 → (X = some (.int x4) ∧ Y = s)) ∧ (x2 = 0 → (X = some (.int x3) ∧ Y = s)))))) ∧ (¬ ((s 1).1 0) ≤ x5 → Z l ad D ia C X Y 66 [(0, .ref (ad 0 0)), (1, .int x1), (2, .int x2), (3, .int x3), (4, .int x4), (5, .int x5), (6, .int (x5 + 1))] [] s))) : Z l ad D ia C X Y 48 [(0, .ref (ad 0 0)), (1, .int x1), (2, .int x2), (3, .int x3), (4, .int x4), (5, .int x5)] [] s := by
  refine Z_iload hC dX8_swap_48 rfl ?_
  refine Z_aload_n hC dX8_swap_50 rfl rfl ?_
  refine Z_get (o := 0) (c := 8) (k := 0) (v := .ref (ad 1 0)) hC rfl zs_8 lkX8_10 rfl dX8_swap_51 ?_
  refine Z_get (o := 1) (c := 0) (k := 0) (v := .int ((s 1).1 0)) hC rfl zs_0 lkX8_123 rfl dX8_swap_54 ?_
  refine Z_icmp_ge (tgt := 143) hC dX8_swap_57 (by decide) (fun c1 => ?_) (fun c1 => ?_)
  · have k := k.1 c1
    refine Z_iload_n hC dX8_swap_143 rfl rfl ?_
    refine Z_bipush (v := (-4)) hC dX8_swap_144 rfl ?_
    refine Z_icmp_eq (tgt := 153) hC dX8_swap_146 (by decide) (fun c2 => ?_) (fun c2 => ?_)
    · have k := k.1 c2
      refine Z_iload_n hC dX8_swap_153 rfl rfl ?_
      refine Z_goto (tgt := 159) hC dX8_swap_154 (by decide) ?_
      exact Z_iret hC dX8_swap_159 k.1 k.2
    · have k := k.2 c2
      refine Z_iload_n hC dX8_swap_149 rfl rfl ?_
      refine Z_if_ne (tgt := 157) hC dX8_swap_150 (by decide) (fun c3 => ?_) (fun c3 => ?_)
      · have k := k.1 c3
        refine Z_iload hC dX8_swap_157 rfl ?_
        exact Z_iret hC dX8_swap_159 k.1 k.2
      · have k := k.2 c3
        refine Z_iload_n hC dX8_swap_153 rfl rfl ?_
        refine Z_goto (tgt := 159) hC dX8_swap_154 (by decide) ?_
        exact Z_iret hC dX8_swap_159 k.1 k.2
  · have k := k.2 c1
    refine Z_iload hC dX8_swap_60 rfl ?_
    refine Z_iconst (v := 1) hC dX8_swap_62 rfl ?_
    refine Z_iadd hC dX8_swap_63 ?_
    refine Z_istore (V2 := [(6, .int (x5 + 1)), (0, .ref (ad 0 0)), (1, .int x1), (2, .int x2), (3, .int x3), (4, .int x4), (5, .int x5)]) hC dX8_swap_64 (by decide) rfl ?_
    exact Z_pick [1, 2, 3, 4, 5, 6, 0] rfl k
set_option maxRecDepth 100000 in
set_option maxHeartbeats 4000000 in
theorem bX8_swap_66 {x1 : Int32} {x2 : Int32} {x3 : Int32} {x4 : Int32} {x5 : Int32} {x6 : Int32} {C : ZC} {X : Option Value} {Y : ZS} {s : ZS} (hC : Zok ad D ia C (d + 1) cX8_swap 7 RX8 (some .int)) (k : ((((s 1).1 0) ≤ x6 → Z l ad D ia C X Y 48 [(0, .ref (ad 0 0)), (1, .int x1), (2, .int x2), (3, .int x3), (4, .int x4), (5, .int (x5 + 1))] [] s) ∧ (¬ ((s 1).1 0) ≤ x6 → (∃ s2 : ZS, Ev l ad D ia d mX8_beginTrial [.ref (ad 0 0)] s none s2 ∧ (∃ s4 : ZS, Ev l ad D ia d mX0_changePlaces [.ref (ad 2 0), .int x5, .int x6] s2 none s4 ∧ (∃ s6 : ZS, Ev l ad D ia d mX0_passDaysTillStill [.ref (ad 2 0), .int x1] s4 none s6 ∧ ((((s6 2).1 12) ≤ x4 → Z l ad D ia C X Y 66 [(0, .ref (ad 0 0)), (1, .int x1), (2, .int x2), (3, .int x3), (4, .int x4), (5, .int x5), (6, .int (x6 + 1))] [] s6) ∧ (¬ ((s6 2).1 12) ≤ x4 → Z l ad D ia C X Y 66 [(0, .ref (ad 0 0)), (1, .int x1), (2, .int x2), (3, .int ((10 * x5) + x6)), (4, .int ((s6 2).1 12)), (5, .int x5), (6, .int (x6 + 1))] [] s6)))))))) : Z l ad D ia C X Y 66 [(0, .ref (ad 0 0)), (1, .int x1), (2, .int x2), (3, .int x3), (4, .int x4), (5, .int x5), (6, .int x6)] [] s := by
  refine Z_iload hC dX8_swap_66 rfl ?_
  refine Z_aload_n hC dX8_swap_68 rfl rfl ?_
  refine Z_get (o := 0) (c := 8) (k := 0) (v := .ref (ad 1 0)) hC rfl zs_8 lkX8_10 rfl dX8_swap_69 ?_
  refine Z_get (o := 1) (c := 0) (k := 0) (v := .int ((s 1).1 0)) hC rfl zs_0 lkX8_123 rfl dX8_swap_72 ?_
  refine Z_icmp_ge (tgt := 137) hC dX8_swap_75 (by decide) (fun c1 => ?_) (fun c1 => ?_)
  · have k := k.1 c1
    refine Z_iinc (v := x5 + 1) (V2 := [(5, .int (x5 + 1)), (0, .ref (ad 0 0)), (1, .int x1), (2, .int x2), (3, .int x3), (4, .int x4), (6, .int x6)]) hC dX8_swap_137 rfl rfl (by decide) rfl ?_
    refine Z_goto (tgt := 48) hC dX8_swap_140 (by decide) ?_
    exact Z_pick [1, 2, 3, 4, 5, 0] rfl k
  · have k := k.2 c1
    refine Z_aload_n hC dX8_swap_78 rfl rfl ?_
    obtain ⟨s2, h3, k⟩ := k
    refine Z_callV (As := []) (rest := []) hC h3 cvX8_205 ⟨8, rfl, zs_8, _, rfl, rfl⟩ rfl rfl (Nat.le_of_ble_eq_true rfl) dX8_swap_79 ?_
    refine Z_aload_n hC dX8_swap_82 rfl rfl ?_
    refine Z_get (o := 0) (c := 8) (k := 1) (v := .ref (ad 2 0)) hC rfl zs_8 lkX8_16 rfl dX8_swap_83 ?_
    refine Z_iload hC dX8_swap_86 rfl ?_
    refine Z_iload hC dX8_swap_88 rfl ?_
    obtain ⟨s4, h5, k⟩ := k
    refine Z_callV (As := [.int x5, .int x6]) (rest := []) hC h5 cvX8_241 ⟨0, rfl, zs_0, _, rfl, rfl⟩ rfl rfl (Nat.le_of_ble_eq_true rfl) dX8_swap_90 ?_
    refine Z_aload_n hC dX8_swap_93 rfl rfl ?_
    refine Z_get (o := 0) (c := 8) (k := 1) (v := .ref (ad 2 0)) hC rfl zs_8 lkX8_16 rfl dX8_swap_94 ?_
    refine Z_iload_n hC dX8_swap_97 rfl rfl ?_
    obtain ⟨s6, h7, k⟩ := k
    refine Z_callV (As := [.int x1]) (rest := []) hC h7 cvX8_238 ⟨0, rfl, zs_0, _, rfl, rfl⟩ rfl rfl (Nat.le_of_ble_eq_true rfl) dX8_swap_98 ?_
    refine Z_aload_n hC dX8_swap_101 rfl rfl ?_
    refine Z_get (o := 0) (c := 8) (k := 1) (v := .ref (ad 2 0)) hC rfl zs_8 lkX8_16 rfl dX8_swap_102 ?_
    refine Z_get (o := 2) (c := 0) (k := 12) (v := .int ((s6 2).1 12)) hC rfl zs_0 lkX8_212 rfl dX8_swap_105 ?_
    refine Z_iload hC dX8_swap_108 rfl ?_
    refine Z_icmp_le (tgt := 131) hC dX8_swap_110 (by decide) (fun c8 => ?_) (fun c8 => ?_)
    · have k := k.1 c8
      refine Z_iinc (v := x6 + 1) (V2 := [(6, .int (x6 + 1)), (0, .ref (ad 0 0)), (1, .int x1), (2, .int x2), (3, .int x3), (4, .int x4), (5, .int x5)]) hC dX8_swap_131 rfl rfl (by decide) rfl ?_
      refine Z_goto (tgt := 66) hC dX8_swap_134 (by decide) ?_
      exact Z_pick [1, 2, 3, 4, 5, 6, 0] rfl k
    · have k := k.2 c8
      refine Z_aload_n hC dX8_swap_113 rfl rfl ?_
      refine Z_get (o := 0) (c := 8) (k := 1) (v := .ref (ad 2 0)) hC rfl zs_8 lkX8_16 rfl dX8_swap_114 ?_
      refine Z_get (o := 2) (c := 0) (k := 12) (v := .int ((s6 2).1 12)) hC rfl zs_0 lkX8_212 rfl dX8_swap_117 ?_
      refine Z_istore (V2 := [(4, .int ((s6 2).1 12)), (0, .ref (ad 0 0)), (1, .int x1), (2, .int x2), (3, .int x3), (5, .int x5), (6, .int x6)]) hC dX8_swap_120 (by decide) rfl ?_
      refine Z_bipush (v := 10) hC dX8_swap_122 rfl ?_
      refine Z_iload hC dX8_swap_124 rfl ?_
      refine Z_imul hC dX8_swap_126 ?_
      refine Z_iload hC dX8_swap_127 rfl ?_
      refine Z_iadd hC dX8_swap_129 ?_
      refine Z_istore_n (V2 := [(3, .int ((10 * x5) + x6)), (4, .int ((s6 2).1 12)), (0, .ref (ad 0 0)), (1, .int x1), (2, .int x2), (5, .int x5), (6, .int x6)]) hC dX8_swap_130 rfl (by decide) rfl ?_
      refine Z_iinc (v := x6 + 1) (V2 := [(6, .int (x6 + 1)), (3, .int ((10 * x5) + x6)), (4, .int ((s6 2).1 12)), (0, .ref (ad 0 0)), (1, .int x1), (2, .int x2), (5, .int x5)]) hC dX8_swap_131 rfl rfl (by decide) rfl ?_
      refine Z_goto (tgt := 66) hC dX8_swap_134 (by decide) ?_
      exact Z_pick [3, 4, 5, 1, 2, 6, 0] rfl k
set_option maxRecDepth 100000 in
set_option maxHeartbeats 4000000 in
theorem bX8_knee_0 {x1 : Int32} {x2 : Int32} {C : ZC} {X : Option Value} {Y : ZS} {s : ZS} (hC : Zok ad D ia C (d + 1) cX8_knee 7 RX8 (some .int)) (k : (∃ (r2 : Int32) (s1 : ZS), Ev l ad D ia d mX0_hasReader [.ref (ad 1 0), .int x1] s (some (.int r2)) s1 ∧ ((r2 = 0 → (X = some (.int ((-1))) ∧ Y = s1)) ∧ (¬ r2 = 0 → (∃ (r6 : Int32) (s5 : ZS), Ev l ad D ia d mX8_outside [.int x2, .int 0, .int 1] s1 (some (.int r6)) s5 ∧ ((r6 = 0 → Z l ad D ia C X Y 32 [(0, .ref (ad 0 0)), (1, .int x1), (2, .int x2), (3, .int ((-4))), (4, .int 61), (5, .int 0)] [] s5) ∧ (¬ r6 = 0 → (X = some (.int ((-1))) ∧ Y = s5)))))))) : Z l ad D ia C X Y 0 [(0, .ref (ad 0 0)), (1, .int x1), (2, .int x2)] [] s := by
  refine Z_aload_n hC dX8_knee_0 rfl rfl ?_
  refine Z_get (o := 0) (c := 8) (k := 0) (v := .ref (ad 1 0)) hC rfl zs_8 lkX8_10 rfl dX8_knee_1 ?_
  refine Z_iload_n hC dX8_knee_4 rfl rfl ?_
  obtain ⟨r2, s1, h3, k⟩ := k
  refine Z_callV (As := [.int x1]) (rest := []) hC h3 cvX8_159 ⟨0, rfl, zs_0, _, rfl, rfl⟩ rfl rfl (Nat.le_of_ble_eq_true rfl) dX8_knee_5 ?_
  refine Z_if_eq (tgt := 20) hC dX8_knee_8 (by decide) (fun c4 => ?_) (fun c4 => ?_)
  · have k := k.1 c4
    refine Z_iconst (v := (-1)) hC dX8_knee_20 rfl ?_
    exact Z_iret hC dX8_knee_21 k.1 k.2
  · have k := k.2 c4
    refine Z_iload_n hC dX8_knee_11 rfl rfl ?_
    refine Z_iconst (v := 0) hC dX8_knee_12 rfl ?_
    refine Z_iconst (v := 1) hC dX8_knee_13 rfl ?_
    obtain ⟨r6, s5, h7, k⟩ := k
    refine Z_callS (As := [.int x2, .int 0, .int 1]) (rest := []) hC h7 csX8_68 rfl rfl (Nat.le_of_ble_eq_true rfl) dX8_knee_14 ?_
    refine Z_if_eq (tgt := 22) hC dX8_knee_17 (by decide) (fun c8 => ?_) (fun c8 => ?_)
    · have k := k.1 c8
      refine Z_bipush (v := (-4)) hC dX8_knee_22 rfl ?_
      refine Z_istore_n (V2 := [(3, .int ((-4))), (0, .ref (ad 0 0)), (1, .int x1), (2, .int x2)]) hC dX8_knee_24 rfl (by decide) rfl ?_
      refine Z_bipush (v := 61) hC dX8_knee_25 rfl ?_
      refine Z_istore (V2 := [(4, .int 61), (3, .int ((-4))), (0, .ref (ad 0 0)), (1, .int x1), (2, .int x2)]) hC dX8_knee_27 (by decide) rfl ?_
      refine Z_iconst (v := 0) hC dX8_knee_29 rfl ?_
      refine Z_istore (V2 := [(5, .int 0), (4, .int 61), (3, .int ((-4))), (0, .ref (ad 0 0)), (1, .int x1), (2, .int x2)]) hC dX8_knee_30 (by decide) rfl ?_
      exact Z_pick [3, 4, 5, 2, 1, 0] rfl k
    · have k := k.2 c8
      refine Z_iconst (v := (-1)) hC dX8_knee_20 rfl ?_
      exact Z_iret hC dX8_knee_21 k.1 k.2
theorem eX8_knee {x1 : Int32} {x2 : Int32} {X : Option Value} {Y : ZS} {s : ZS} (k : ∀ C : ZC, Zok ad D ia C (d + 1) cX8_knee 7 RX8 (some .int) → (∃ (r2 : Int32) (s1 : ZS), Ev l ad D ia d mX0_hasReader [.ref (ad 1 0), .int x1] s (some (.int r2)) s1 ∧ ((r2 = 0 → (X = some (.int ((-1))) ∧ Y = s1)) ∧ (¬ r2 = 0 → (∃ (r6 : Int32) (s5 : ZS), Ev l ad D ia d mX8_outside [.int x2, .int 0, .int 1] s1 (some (.int r6)) s5 ∧ ((r6 = 0 → Z l ad D ia C X Y 32 [(0, .ref (ad 0 0)), (1, .int x1), (2, .int x2), (3, .int ((-4))), (4, .int 61), (5, .int 0)] [] s5) ∧ (¬ r6 = 0 → (X = some (.int ((-1))) ∧ Y = s5)))))))) : Ev l ad D ia (d + 1) mX8_knee [.ref (ad 0 0), .int x1, .int x2] s X Y :=
  Ev.start (by decide +kernel) (Nat.le_of_ble_eq_true rfl) (fun C hC => bX8_knee_0  hC (k C hC))
set_option maxRecDepth 100000 in
set_option maxHeartbeats 4000000 in
theorem bX8_knee_32 {x1 : Int32} {x2 : Int32} {x3 : Int32} {x4 : Int32} {x5 : Int32} {C : ZC} {X : Option Value} {Y : ZS} {s : ZS} (hC : Zok ad D ia C (d + 1) cX8_knee 7 RX8 (some .int)) (k : ((((s 1).1 0) ≤ x5 → ((x3 = ((-4)) → (X = some (.int x3) ∧ Y = s)) ∧ (¬ x3 = ((-4)) → ((¬ x2 = 0 → (X = some (.int x4) ∧ Y = s)) ∧ (x2 = 0 → (X = some (.int x3) ∧ Y = s)))))) ∧ (¬ ((s 1).1 0) ≤ x5 → (∃ s4 : ZS, Ev l ad D ia d mX8_beginTrial [.ref (ad 0 0)] s none s4 ∧ (vp_in x5 8 ∧ (∀ s7 : ZS, s7 = stA s4 2 2 x5.toNatClampNeg 0 → (∃ (r9 : Int32) (s8 : ZS), Ev l ad D ia d mX0_daysTillDone [.ref (ad 2 0), .int x1, .int 60] s7 (some (.int r9)) s8 ∧ ((r9 = ((-4)) → Z l ad D ia C X Y 32 [(0, .ref (ad 0 0)), (1, .int x1), (2, .int x2), (3, .int x3), (4, .int x4), (5, .int (x5 + 1))] [] s8) ∧ (¬ r9 = ((-4)) → ((x4 ≤ r9 → Z l ad D ia C X Y 32 [(0, .ref (ad 0 0)), (1, .int x1), (2, .int x2), (3, .int x3), (4, .int x4), (5, .int (x5 + 1))] [] s8) ∧ (¬ x4 ≤ r9 → Z l ad D ia C X Y 32 [(0, .ref (ad 0 0)), (1, .int x1), (2, .int x2), (3, .int x5), (4, .int r9), (5, .int (x5 + 1))] [] s8))))))))))) : Z l ad D ia C X Y 32 [(0, .ref (ad 0 0)), (1, .int x1), (2, .int x2), (3, .int x3), (4, .int x4), (5, .int x5)] [] s := by
  refine Z_iload hC dX8_knee_32 rfl ?_
  refine Z_aload_n hC dX8_knee_34 rfl rfl ?_
  refine Z_get (o := 0) (c := 8) (k := 0) (v := .ref (ad 1 0)) hC rfl zs_8 lkX8_10 rfl dX8_knee_35 ?_
  refine Z_get (o := 1) (c := 0) (k := 0) (v := .int ((s 1).1 0)) hC rfl zs_0 lkX8_123 rfl dX8_knee_38 ?_
  refine Z_icmp_ge (tgt := 98) hC dX8_knee_41 (by decide) (fun c1 => ?_) (fun c1 => ?_)
  · have k := k.1 c1
    refine Z_iload_n hC dX8_knee_98 rfl rfl ?_
    refine Z_bipush (v := (-4)) hC dX8_knee_99 rfl ?_
    refine Z_icmp_eq (tgt := 108) hC dX8_knee_101 (by decide) (fun c2 => ?_) (fun c2 => ?_)
    · have k := k.1 c2
      refine Z_iload_n hC dX8_knee_108 rfl rfl ?_
      refine Z_goto (tgt := 114) hC dX8_knee_109 (by decide) ?_
      exact Z_iret hC dX8_knee_114 k.1 k.2
    · have k := k.2 c2
      refine Z_iload_n hC dX8_knee_104 rfl rfl ?_
      refine Z_if_ne (tgt := 112) hC dX8_knee_105 (by decide) (fun c3 => ?_) (fun c3 => ?_)
      · have k := k.1 c3
        refine Z_iload hC dX8_knee_112 rfl ?_
        exact Z_iret hC dX8_knee_114 k.1 k.2
      · have k := k.2 c3
        refine Z_iload_n hC dX8_knee_108 rfl rfl ?_
        refine Z_goto (tgt := 114) hC dX8_knee_109 (by decide) ?_
        exact Z_iret hC dX8_knee_114 k.1 k.2
  · have k := k.2 c1
    refine Z_aload_n hC dX8_knee_44 rfl rfl ?_
    obtain ⟨s4, h5, k⟩ := k
    refine Z_callV (As := []) (rest := []) hC h5 cvX8_205 ⟨8, rfl, zs_8, _, rfl, rfl⟩ rfl rfl (Nat.le_of_ble_eq_true rfl) dX8_knee_45 ?_
    refine Z_aload_n hC dX8_knee_48 rfl rfl ?_
    refine Z_get (o := 0) (c := 8) (k := 1) (v := .ref (ad 2 0)) hC rfl zs_8 lkX8_16 rfl dX8_knee_49 ?_
    refine Z_get (o := 2) (c := 0) (k := 2) (v := .ref (ad 2 3)) hC rfl zs_0 lkX8_149 rfl dX8_knee_52 ?_
    refine Z_iload hC dX8_knee_55 rfl ?_
    refine Z_iconst (v := 0) hC dX8_knee_57 rfl ?_
    obtain ⟨h6, k⟩ := k
    refine Z_iast2 (o := 2) (k := 2) hC (zis_of rfl rfl) h6 dX8_knee_58 (fun s7 es7 => ?_)
    have k := k s7 es7
    refine Z_aload_n hC dX8_knee_59 rfl rfl ?_
    refine Z_get (o := 0) (c := 8) (k := 1) (v := .ref (ad 2 0)) hC rfl zs_8 lkX8_16 rfl dX8_knee_60 ?_
    refine Z_iload_n hC dX8_knee_63 rfl rfl ?_
    refine Z_bipush (v := 60) hC dX8_knee_64 rfl ?_
    obtain ⟨r9, s8, h10, k⟩ := k
    refine Z_callV (As := [.int x1, .int 60]) (rest := []) hC h10 cvX8_228 ⟨0, rfl, zs_0, _, rfl, rfl⟩ rfl rfl (Nat.le_of_ble_eq_true rfl) dX8_knee_66 ?_
    refine Z_istore (V2 := [(6, .int r9), (0, .ref (ad 0 0)), (1, .int x1), (2, .int x2), (3, .int x3), (4, .int x4), (5, .int x5)]) hC dX8_knee_69 (by decide) rfl ?_
    refine Z_iload hC dX8_knee_71 rfl ?_
    refine Z_bipush (v := (-4)) hC dX8_knee_73 rfl ?_
    refine Z_icmp_eq (tgt := 92) hC dX8_knee_75 (by decide) (fun c11 => ?_) (fun c11 => ?_)
    · have k := k.1 c11
      refine Z_iinc (v := x5 + 1) (V2 := [(5, .int (x5 + 1)), (6, .int r9), (0, .ref (ad 0 0)), (1, .int x1), (2, .int x2), (3, .int x3), (4, .int x4)]) hC dX8_knee_92 rfl rfl (by decide) rfl ?_
      refine Z_goto (tgt := 32) hC dX8_knee_95 (by decide) ?_
      exact Z_pick [2, 3, 4, 5, 6, 0] rfl k
    · have k := k.2 c11
      refine Z_iload hC dX8_knee_78 rfl ?_
      refine Z_iload hC dX8_knee_80 rfl ?_
      refine Z_icmp_ge (tgt := 92) hC dX8_knee_82 (by decide) (fun c12 => ?_) (fun c12 => ?_)
      · have k := k.1 c12
        refine Z_iinc (v := x5 + 1) (V2 := [(5, .int (x5 + 1)), (6, .int r9), (0, .ref (ad 0 0)), (1, .int x1), (2, .int x2), (3, .int x3), (4, .int x4)]) hC dX8_knee_92 rfl rfl (by decide) rfl ?_
        refine Z_goto (tgt := 32) hC dX8_knee_95 (by decide) ?_
        exact Z_pick [2, 3, 4, 5, 6, 0] rfl k
      · have k := k.2 c12
        refine Z_iload hC dX8_knee_85 rfl ?_
        refine Z_istore (V2 := [(4, .int r9), (6, .int r9), (0, .ref (ad 0 0)), (1, .int x1), (2, .int x2), (3, .int x3), (5, .int x5)]) hC dX8_knee_87 (by decide) rfl ?_
        refine Z_iload hC dX8_knee_89 rfl ?_
        refine Z_istore_n (V2 := [(3, .int x5), (4, .int r9), (6, .int r9), (0, .ref (ad 0 0)), (1, .int x1), (2, .int x2), (5, .int x5)]) hC dX8_knee_91 rfl (by decide) rfl ?_
        refine Z_iinc (v := x5 + 1) (V2 := [(5, .int (x5 + 1)), (3, .int x5), (4, .int r9), (6, .int r9), (0, .ref (ad 0 0)), (1, .int x1), (2, .int x2)]) hC dX8_knee_92 rfl rfl (by decide) rfl ?_
        refine Z_goto (tgt := 32) hC dX8_knee_95 (by decide) ?_
        exact Z_pick [4, 5, 6, 1, 2, 0] rfl k
set_option maxRecDepth 100000 in
set_option maxHeartbeats 4000000 in
theorem bX8_need_0 {x1 : Int32} {x2 : Int32} {C : ZC} {X : Option Value} {Y : ZS} {s : ZS} (hC : Zok ad D ia C (d + 1) cX8_need 4 RX8 (some .int)) (k : (∃ (r2 : Int32) (s1 : ZS), Ev l ad D ia d mX0_hasReader [.ref (ad 1 0), .int x1] s (some (.int r2)) s1 ∧ ((r2 = 0 → (X = some (.int ((-1))) ∧ Y = s1)) ∧ (¬ r2 = 0 → (∃ (r6 : Int32) (s5 : ZS), Ev l ad D ia d mX8_outside [.int x2, .int 0, .int 60] s1 (some (.int r6)) s5 ∧ ((r6 = 0 → Z l ad D ia C X Y 25 [(0, .ref (ad 0 0)), (1, .int x1), (2, .int x2), (3, .int 1)] [] s5) ∧ (¬ r6 = 0 → (X = some (.int ((-1))) ∧ Y = s5)))))))) : Z l ad D ia C X Y 0 [(0, .ref (ad 0 0)), (1, .int x1), (2, .int x2)] [] s := by
  refine Z_aload_n hC dX8_need_0 rfl rfl ?_
  refine Z_get (o := 0) (c := 8) (k := 0) (v := .ref (ad 1 0)) hC rfl zs_8 lkX8_10 rfl dX8_need_1 ?_
  refine Z_iload_n hC dX8_need_4 rfl rfl ?_
  obtain ⟨r2, s1, h3, k⟩ := k
  refine Z_callV (As := [.int x1]) (rest := []) hC h3 cvX8_159 ⟨0, rfl, zs_0, _, rfl, rfl⟩ rfl rfl (Nat.le_of_ble_eq_true rfl) dX8_need_5 ?_
  refine Z_if_eq (tgt := 21) hC dX8_need_8 (by decide) (fun c4 => ?_) (fun c4 => ?_)
  · have k := k.1 c4
    refine Z_iconst (v := (-1)) hC dX8_need_21 rfl ?_
    exact Z_iret hC dX8_need_22 k.1 k.2
  · have k := k.2 c4
    refine Z_iload_n hC dX8_need_11 rfl rfl ?_
    refine Z_iconst (v := 0) hC dX8_need_12 rfl ?_
    refine Z_bipush (v := 60) hC dX8_need_13 rfl ?_
    obtain ⟨r6, s5, h7, k⟩ := k
    refine Z_callS (As := [.int x2, .int 0, .int 60]) (rest := []) hC h7 csX8_68 rfl rfl (Nat.le_of_ble_eq_true rfl) dX8_need_15 ?_
    refine Z_if_eq (tgt := 23) hC dX8_need_18 (by decide) (fun c8 => ?_) (fun c8 => ?_)
    · have k := k.1 c8
      refine Z_iconst (v := 1) hC dX8_need_23 rfl ?_
      refine Z_istore_n (V2 := [(3, .int 1), (0, .ref (ad 0 0)), (1, .int x1), (2, .int x2)]) hC dX8_need_24 rfl (by decide) rfl ?_
      exact Z_pick [1, 2, 3, 0] rfl k
    · have k := k.2 c8
      refine Z_iconst (v := (-1)) hC dX8_need_21 rfl ?_
      exact Z_iret hC dX8_need_22 k.1 k.2
theorem eX8_need {x1 : Int32} {x2 : Int32} {X : Option Value} {Y : ZS} {s : ZS} (k : ∀ C : ZC, Zok ad D ia C (d + 1) cX8_need 4 RX8 (some .int) → (∃ (r2 : Int32) (s1 : ZS), Ev l ad D ia d mX0_hasReader [.ref (ad 1 0), .int x1] s (some (.int r2)) s1 ∧ ((r2 = 0 → (X = some (.int ((-1))) ∧ Y = s1)) ∧ (¬ r2 = 0 → (∃ (r6 : Int32) (s5 : ZS), Ev l ad D ia d mX8_outside [.int x2, .int 0, .int 60] s1 (some (.int r6)) s5 ∧ ((r6 = 0 → Z l ad D ia C X Y 25 [(0, .ref (ad 0 0)), (1, .int x1), (2, .int x2), (3, .int 1)] [] s5) ∧ (¬ r6 = 0 → (X = some (.int ((-1))) ∧ Y = s5)))))))) : Ev l ad D ia (d + 1) mX8_need [.ref (ad 0 0), .int x1, .int x2] s X Y :=
  Ev.start (by decide +kernel) (Nat.le_of_ble_eq_true rfl) (fun C hC => bX8_need_0  hC (k C hC))
set_option maxRecDepth 100000 in
set_option maxHeartbeats 4000000 in
theorem bX8_need_25 {x1 : Int32} {x2 : Int32} {x3 : Int32} {C : ZC} {X : Option Value} {Y : ZS} {s : ZS} (hC : Zok ad D ia C (d + 1) cX8_need 4 RX8 (some .int)) (k : ((99 < x3 → (X = some (.int ((-4))) ∧ Y = s)) ∧ (¬ 99 < x3 → (∃ s2 : ZS, Ev l ad D ia d mX8_beginTrial [.ref (ad 0 0)] s none s2 ∧ (vp_in x1 4 ∧ (∀ s5 : ZS, s5 = stA s2 2 7 x1.toNatClampNeg x3 → (∃ (r7 : Int32) (s6 : ZS), Ev l ad D ia d mX0_daysTillDone [.ref (ad 2 0), .int x1, .int x2] s5 (some (.int r7)) s6 ∧ ((r7 = ((-4)) → Z l ad D ia C X Y 25 [(0, .ref (ad 0 0)), (1, .int x1), (2, .int x2), (3, .int (x3 + 1))] [] s6) ∧ (¬ r7 = ((-4)) → (X = some (.int x3) ∧ Y = s6)))))))))) : Z l ad D ia C X Y 25 [(0, .ref (ad 0 0)), (1, .int x1), (2, .int x2), (3, .int x3)] [] s := by
  refine Z_iload_n hC dX8_need_25 rfl rfl ?_
  refine Z_bipush (v := 99) hC dX8_need_26 rfl ?_
  refine Z_icmp_gt (tgt := 67) hC dX8_need_28 (by decide) (fun c1 => ?_) (fun c1 => ?_)
  · have k := k.1 c1
    refine Z_bipush (v := (-4)) hC dX8_need_67 rfl ?_
    exact Z_iret hC dX8_need_69 k.1 k.2
  · have k := k.2 c1
    refine Z_aload_n hC dX8_need_31 rfl rfl ?_
    obtain ⟨s2, h3, k⟩ := k
    refine Z_callV (As := []) (rest := []) hC h3 cvX8_205 ⟨8, rfl, zs_8, _, rfl, rfl⟩ rfl rfl (Nat.le_of_ble_eq_true rfl) dX8_need_32 ?_
    refine Z_aload_n hC dX8_need_35 rfl rfl ?_
    refine Z_get (o := 0) (c := 8) (k := 1) (v := .ref (ad 2 0)) hC rfl zs_8 lkX8_16 rfl dX8_need_36 ?_
    refine Z_get (o := 2) (c := 0) (k := 7) (v := .ref (ad 2 8)) hC rfl zs_0 lkX8_168 rfl dX8_need_39 ?_
    refine Z_iload_n hC dX8_need_42 rfl rfl ?_
    refine Z_iload_n hC dX8_need_43 rfl rfl ?_
    obtain ⟨h4, k⟩ := k
    refine Z_iast2 (o := 2) (k := 7) hC (zis_of rfl rfl) h4 dX8_need_44 (fun s5 es5 => ?_)
    have k := k s5 es5
    refine Z_aload_n hC dX8_need_45 rfl rfl ?_
    refine Z_get (o := 0) (c := 8) (k := 1) (v := .ref (ad 2 0)) hC rfl zs_8 lkX8_16 rfl dX8_need_46 ?_
    refine Z_iload_n hC dX8_need_49 rfl rfl ?_
    refine Z_iload_n hC dX8_need_50 rfl rfl ?_
    obtain ⟨r7, s6, h8, k⟩ := k
    refine Z_callV (As := [.int x1, .int x2]) (rest := []) hC h8 cvX8_228 ⟨0, rfl, zs_0, _, rfl, rfl⟩ rfl rfl (Nat.le_of_ble_eq_true rfl) dX8_need_51 ?_
    refine Z_bipush (v := (-4)) hC dX8_need_54 rfl ?_
    refine Z_icmp_eq (tgt := 61) hC dX8_need_56 (by decide) (fun c9 => ?_) (fun c9 => ?_)
    · have k := k.1 c9
      refine Z_iinc (v := x3 + 1) (V2 := [(3, .int (x3 + 1)), (0, .ref (ad 0 0)), (1, .int x1), (2, .int x2)]) hC dX8_need_61 rfl rfl (by decide) rfl ?_
      refine Z_goto (tgt := 25) hC dX8_need_64 (by decide) ?_
      exact Z_pick [1, 2, 3, 0] rfl k
    · have k := k.2 c9
      refine Z_iload_n hC dX8_need_59 rfl rfl ?_
      exact Z_iret hC dX8_need_60 k.1 k.2
set_option maxRecDepth 100000 in
set_option maxHeartbeats 4000000 in
theorem bX8_high_0 {x1 : Int32} {x2 : Int32} {x3 : Int32} {C : ZC} {X : Option Value} {Y : ZS} {s : ZS} (hC : Zok ad D ia C (d + 1) cX8_high 5 RX8 (some .int)) (k : (∃ (r2 : Int32) (s1 : ZS), Ev l ad D ia d mX0_hasBook [.ref (ad 1 0), .int x1] s (some (.int r2)) s1 ∧ ((r2 = 0 → (X = some (.int ((-1))) ∧ Y = s1)) ∧ (¬ r2 = 0 → (∃ (r6 : Int32) (s5 : ZS), Ev l ad D ia d mX0_hasReader [.ref (ad 1 0), .int x2] s1 (some (.int r6)) s5 ∧ ((r6 = 0 → (X = some (.int ((-1))) ∧ Y = s5)) ∧ (¬ r6 = 0 → (∃ (r10 : Int32) (s9 : ZS), Ev l ad D ia d mX8_outside [.int x3, .int 0, .int 60] s5 (some (.int r10)) s9 ∧ ((r10 = 0 → Z l ad D ia C X Y 38 [(0, .ref (ad 0 0)), (1, .int x1), (2, .int x2), (3, .int x3), (4, .int 9)] [] s9) ∧ (¬ r10 = 0 → (X = some (.int ((-1))) ∧ Y = s9))))))))))) : Z l ad D ia C X Y 0 [(0, .ref (ad 0 0)), (1, .int x1), (2, .int x2), (3, .int x3)] [] s := by
  refine Z_aload_n hC dX8_high_0 rfl rfl ?_
  refine Z_get (o := 0) (c := 8) (k := 0) (v := .ref (ad 1 0)) hC rfl zs_8 lkX8_10 rfl dX8_high_1 ?_
  refine Z_iload_n hC dX8_high_4 rfl rfl ?_
  obtain ⟨r2, s1, h3, k⟩ := k
  refine Z_callV (As := [.int x1]) (rest := []) hC h3 cvX8_142 ⟨0, rfl, zs_0, _, rfl, rfl⟩ rfl rfl (Nat.le_of_ble_eq_true rfl) dX8_high_5 ?_
  refine Z_if_eq (tgt := 32) hC dX8_high_8 (by decide) (fun c4 => ?_) (fun c4 => ?_)
  · have k := k.1 c4
    refine Z_iconst (v := (-1)) hC dX8_high_32 rfl ?_
    exact Z_iret hC dX8_high_33 k.1 k.2
  · have k := k.2 c4
    refine Z_aload_n hC dX8_high_11 rfl rfl ?_
    refine Z_get (o := 0) (c := 8) (k := 0) (v := .ref (ad 1 0)) hC rfl zs_8 lkX8_10 rfl dX8_high_12 ?_
    refine Z_iload_n hC dX8_high_15 rfl rfl ?_
    obtain ⟨r6, s5, h7, k⟩ := k
    refine Z_callV (As := [.int x2]) (rest := []) hC h7 cvX8_159 ⟨0, rfl, zs_0, _, rfl, rfl⟩ rfl rfl (Nat.le_of_ble_eq_true rfl) dX8_high_16 ?_
    refine Z_if_eq (tgt := 32) hC dX8_high_19 (by decide) (fun c8 => ?_) (fun c8 => ?_)
    · have k := k.1 c8
      refine Z_iconst (v := (-1)) hC dX8_high_32 rfl ?_
      exact Z_iret hC dX8_high_33 k.1 k.2
    · have k := k.2 c8
      refine Z_iload_n hC dX8_high_22 rfl rfl ?_
      refine Z_iconst (v := 0) hC dX8_high_23 rfl ?_
      refine Z_bipush (v := 60) hC dX8_high_24 rfl ?_
      obtain ⟨r10, s9, h11, k⟩ := k
      refine Z_callS (As := [.int x3, .int 0, .int 60]) (rest := []) hC h11 csX8_68 rfl rfl (Nat.le_of_ble_eq_true rfl) dX8_high_26 ?_
      refine Z_if_eq (tgt := 34) hC dX8_high_29 (by decide) (fun c12 => ?_) (fun c12 => ?_)
      · have k := k.1 c12
        refine Z_bipush (v := 9) hC dX8_high_34 rfl ?_
        refine Z_istore (V2 := [(4, .int 9), (0, .ref (ad 0 0)), (1, .int x1), (2, .int x2), (3, .int x3)]) hC dX8_high_36 (by decide) rfl ?_
        exact Z_pick [1, 2, 3, 4, 0] rfl k
      · have k := k.2 c12
        refine Z_iconst (v := (-1)) hC dX8_high_32 rfl ?_
        exact Z_iret hC dX8_high_33 k.1 k.2
theorem eX8_high {x1 : Int32} {x2 : Int32} {x3 : Int32} {X : Option Value} {Y : ZS} {s : ZS} (k : ∀ C : ZC, Zok ad D ia C (d + 1) cX8_high 5 RX8 (some .int) → (∃ (r2 : Int32) (s1 : ZS), Ev l ad D ia d mX0_hasBook [.ref (ad 1 0), .int x1] s (some (.int r2)) s1 ∧ ((r2 = 0 → (X = some (.int ((-1))) ∧ Y = s1)) ∧ (¬ r2 = 0 → (∃ (r6 : Int32) (s5 : ZS), Ev l ad D ia d mX0_hasReader [.ref (ad 1 0), .int x2] s1 (some (.int r6)) s5 ∧ ((r6 = 0 → (X = some (.int ((-1))) ∧ Y = s5)) ∧ (¬ r6 = 0 → (∃ (r10 : Int32) (s9 : ZS), Ev l ad D ia d mX8_outside [.int x3, .int 0, .int 60] s5 (some (.int r10)) s9 ∧ ((r10 = 0 → Z l ad D ia C X Y 38 [(0, .ref (ad 0 0)), (1, .int x1), (2, .int x2), (3, .int x3), (4, .int 9)] [] s9) ∧ (¬ r10 = 0 → (X = some (.int ((-1))) ∧ Y = s9))))))))))) : Ev l ad D ia (d + 1) mX8_high [.ref (ad 0 0), .int x1, .int x2, .int x3] s X Y :=
  Ev.start (by decide +kernel) (Nat.le_of_ble_eq_true rfl) (fun C hC => bX8_high_0  hC (k C hC))
set_option maxRecDepth 100000 in
set_option maxHeartbeats 4000000 in
theorem bX8_high_38 {x1 : Int32} {x2 : Int32} {x3 : Int32} {x4 : Int32} {C : ZC} {X : Option Value} {Y : ZS} {s : ZS} (hC : Zok ad D ia C (d + 1) cX8_high 5 RX8 (some .int)) (k : ((x4 < 0 → (X = some (.int ((-4))) ∧ Y = s)) ∧ (¬ x4 < 0 → (∃ s2 : ZS, Ev l ad D ia d mX8_beginTrial [.ref (ad 0 0)] s none s2 ∧ (vp_in x1 8 ∧ (∀ s5 : ZS, s5 = stA s2 2 2 x1.toNatClampNeg x4 → (∃ s6 : ZS, Ev l ad D ia d mX0_passDaysOf [.ref (ad 2 0), .int x2, .int x3] s5 none s6 ∧ (∃ (r9 : Int32) (s8 : ZS), Ev l ad D ia d mX0_hasHad [.ref (ad 2 0), .int x2, .int x1] s6 (some (.int r9)) s8 ∧ ((r9 = 0 → Z l ad D ia C X Y 38 [(0, .ref (ad 0 0)), (1, .int x1), (2, .int x2), (3, .int x3), (4, .int (x4 + (-1)))] [] s8) ∧ (¬ r9 = 0 → (X = some (.int x4) ∧ Y = s8))))))))))) : Z l ad D ia C X Y 38 [(0, .ref (ad 0 0)), (1, .int x1), (2, .int x2), (3, .int x3), (4, .int x4)] [] s := by
  refine Z_iload hC dX8_high_38 rfl ?_
  refine Z_if_lt (tgt := 88) hC dX8_high_40 (by decide) (fun c1 => ?_) (fun c1 => ?_)
  · have k := k.1 c1
    refine Z_bipush (v := (-4)) hC dX8_high_88 rfl ?_
    exact Z_iret hC dX8_high_90 k.1 k.2
  · have k := k.2 c1
    refine Z_aload_n hC dX8_high_43 rfl rfl ?_
    obtain ⟨s2, h3, k⟩ := k
    refine Z_callV (As := []) (rest := []) hC h3 cvX8_205 ⟨8, rfl, zs_8, _, rfl, rfl⟩ rfl rfl (Nat.le_of_ble_eq_true rfl) dX8_high_44 ?_
    refine Z_aload_n hC dX8_high_47 rfl rfl ?_
    refine Z_get (o := 0) (c := 8) (k := 1) (v := .ref (ad 2 0)) hC rfl zs_8 lkX8_16 rfl dX8_high_48 ?_
    refine Z_get (o := 2) (c := 0) (k := 2) (v := .ref (ad 2 3)) hC rfl zs_0 lkX8_149 rfl dX8_high_51 ?_
    refine Z_iload_n hC dX8_high_54 rfl rfl ?_
    refine Z_iload hC dX8_high_55 rfl ?_
    obtain ⟨h4, k⟩ := k
    refine Z_iast2 (o := 2) (k := 2) hC (zis_of rfl rfl) h4 dX8_high_57 (fun s5 es5 => ?_)
    have k := k s5 es5
    refine Z_aload_n hC dX8_high_58 rfl rfl ?_
    refine Z_get (o := 0) (c := 8) (k := 1) (v := .ref (ad 2 0)) hC rfl zs_8 lkX8_16 rfl dX8_high_59 ?_
    refine Z_iload_n hC dX8_high_62 rfl rfl ?_
    refine Z_iload_n hC dX8_high_63 rfl rfl ?_
    obtain ⟨s6, h7, k⟩ := k
    refine Z_callV (As := [.int x2, .int x3]) (rest := []) hC h7 cvX8_224 ⟨0, rfl, zs_0, _, rfl, rfl⟩ rfl rfl (Nat.le_of_ble_eq_true rfl) dX8_high_64 ?_
    refine Z_aload_n hC dX8_high_67 rfl rfl ?_
    refine Z_get (o := 0) (c := 8) (k := 1) (v := .ref (ad 2 0)) hC rfl zs_8 lkX8_16 rfl dX8_high_68 ?_
    refine Z_iload_n hC dX8_high_71 rfl rfl ?_
    refine Z_iload_n hC dX8_high_72 rfl rfl ?_
    obtain ⟨r9, s8, h10, k⟩ := k
    refine Z_callV (As := [.int x2, .int x1]) (rest := []) hC h10 cvX8_244 ⟨0, rfl, zs_0, _, rfl, rfl⟩ rfl rfl (Nat.le_of_ble_eq_true rfl) dX8_high_73 ?_
    refine Z_if_eq (tgt := 82) hC dX8_high_76 (by decide) (fun c11 => ?_) (fun c11 => ?_)
    · have k := k.1 c11
      refine Z_iinc (v := x4 + (-1)) (V2 := [(4, .int (x4 + (-1))), (0, .ref (ad 0 0)), (1, .int x1), (2, .int x2), (3, .int x3)]) hC dX8_high_82 rfl rfl (by decide) rfl ?_
      refine Z_goto (tgt := 38) hC dX8_high_85 (by decide) ?_
      exact Z_pick [1, 2, 3, 4, 0] rfl k
    · have k := k.2 c11
      refine Z_iload hC dX8_high_79 rfl ?_
      exact Z_iret hC dX8_high_81 k.1 k.2
set_option maxRecDepth 100000 in
set_option maxHeartbeats 4000000 in
theorem bX8_luck_0 {x1 : Int32} {x2 : Int32} {x3 : Int32} {x4 : Int32} {C : ZC} {X : Option Value} {Y : ZS} {s : ZS} (hC : Zok ad D ia C (d + 1) cX8_luck 8 RX8 (some .long)) (k : (∃ (r2 : Int32) (s1 : ZS), Ev l ad D ia d mX8_outside [.int x1, .int 0, .int 10] s (some (.int r2)) s1 ∧ ((¬ r2 = 0 → (X = some (.long ((-1))) ∧ Y = s1)) ∧ (r2 = 0 → (∃ (r6 : Int32) (s5 : ZS), Ev l ad D ia d mX8_outside [.int x2, .int 0, .int 8] s1 (some (.int r6)) s5 ∧ ((¬ r6 = 0 → (X = some (.long ((-1))) ∧ Y = s5)) ∧ (r6 = 0 → (∃ (r10 : Int32) (s9 : ZS), Ev l ad D ia d mX8_outside [.int x3, .int 0, .int 9999] s5 (some (.int r10)) s9 ∧ ((¬ r10 = 0 → (X = some (.long ((-1))) ∧ Y = s9)) ∧ (r10 = 0 → (∃ (r14 : Int32) (s13 : ZS), Ev l ad D ia d mX8_outside [.int x4, .int 0, .int 1] s9 (some (.int r14)) s13 ∧ ((r14 = 0 → (∃ s17 : ZS, Ev l ad D ia d mX4_foresee [.ref (ad 18 0), .ref (ad 1 0), .ref (ad 2 0), .int x2] s13 none s17 ∧ Z l ad D ia C X Y 67 [(0, .ref (ad 0 0)), (1, .int x1), (2, .int x2), (3, .int x3), (4, .int x4), (5, .long 1), (7, .int 0)] [] s17)) ∧ (¬ r14 = 0 → (X = some (.long ((-1))) ∧ Y = s13)))))))))))))) : Z l ad D ia C X Y 0 [(0, .ref (ad 0 0)), (1, .int x1), (2, .int x2), (3, .int x3), (4, .int x4)] [] s := by
  refine Z_iload_n hC dX8_luck_0 rfl rfl ?_
  refine Z_iconst (v := 0) hC dX8_luck_1 rfl ?_
  refine Z_bipush (v := 10) hC dX8_luck_2 rfl ?_
  obtain ⟨r2, s1, h3, k⟩ := k
  refine Z_callS (As := [.int x1, .int 0, .int 10]) (rest := []) hC h3 csX8_68 rfl rfl (Nat.le_of_ble_eq_true rfl) dX8_luck_4 ?_
  refine Z_if_ne (tgt := 41) hC dX8_luck_7 (by decide) (fun c4 => ?_) (fun c4 => ?_)
  · have k := k.1 c4
    refine Z_ldc2 hC clX8_248 dX8_luck_41 ?_
    exact Z_lret hC dX8_luck_44 k.1 k.2
  · have k := k.2 c4
    refine Z_iload_n hC dX8_luck_10 rfl rfl ?_
    refine Z_iconst (v := 0) hC dX8_luck_11 rfl ?_
    refine Z_bipush (v := 8) hC dX8_luck_12 rfl ?_
    obtain ⟨r6, s5, h7, k⟩ := k
    refine Z_callS (As := [.int x2, .int 0, .int 8]) (rest := []) hC h7 csX8_68 rfl rfl (Nat.le_of_ble_eq_true rfl) dX8_luck_14 ?_
    refine Z_if_ne (tgt := 41) hC dX8_luck_17 (by decide) (fun c8 => ?_) (fun c8 => ?_)
    · have k := k.1 c8
      refine Z_ldc2 hC clX8_248 dX8_luck_41 ?_
      exact Z_lret hC dX8_luck_44 k.1 k.2
    · have k := k.2 c8
      refine Z_iload_n hC dX8_luck_20 rfl rfl ?_
      refine Z_iconst (v := 0) hC dX8_luck_21 rfl ?_
      refine Z_sipush (v := 9999) hC dX8_luck_22 rfl ?_
      obtain ⟨r10, s9, h11, k⟩ := k
      refine Z_callS (As := [.int x3, .int 0, .int 9999]) (rest := []) hC h11 csX8_68 rfl rfl (Nat.le_of_ble_eq_true rfl) dX8_luck_25 ?_
      refine Z_if_ne (tgt := 41) hC dX8_luck_28 (by decide) (fun c12 => ?_) (fun c12 => ?_)
      · have k := k.1 c12
        refine Z_ldc2 hC clX8_248 dX8_luck_41 ?_
        exact Z_lret hC dX8_luck_44 k.1 k.2
      · have k := k.2 c12
        refine Z_iload hC dX8_luck_31 rfl ?_
        refine Z_iconst (v := 0) hC dX8_luck_33 rfl ?_
        refine Z_iconst (v := 1) hC dX8_luck_34 rfl ?_
        obtain ⟨r14, s13, h15, k⟩ := k
        refine Z_callS (As := [.int x4, .int 0, .int 1]) (rest := []) hC h15 csX8_68 rfl rfl (Nat.le_of_ble_eq_true rfl) dX8_luck_35 ?_
        refine Z_if_eq (tgt := 45) hC dX8_luck_38 (by decide) (fun c16 => ?_) (fun c16 => ?_)
        · have k := k.1 c16
          refine Z_aload_n hC dX8_luck_45 rfl rfl ?_
          refine Z_get (o := 0) (c := 8) (k := 10) (v := .ref (ad 18 0)) hC rfl zs_8 lkX8_55 rfl dX8_luck_46 ?_
          refine Z_aload_n hC dX8_luck_49 rfl rfl ?_
          refine Z_get (o := 0) (c := 8) (k := 0) (v := .ref (ad 1 0)) hC rfl zs_8 lkX8_10 rfl dX8_luck_50 ?_
          refine Z_aload_n hC dX8_luck_53 rfl rfl ?_
          refine Z_get (o := 0) (c := 8) (k := 1) (v := .ref (ad 2 0)) hC rfl zs_8 lkX8_16 rfl dX8_luck_54 ?_
          refine Z_iload_n hC dX8_luck_57 rfl rfl ?_
          obtain ⟨s17, h18, k⟩ := k
          refine Z_callV (As := [.ref (ad 1 0), .ref (ad 2 0), .int x2]) (rest := []) hC h18 cvX8_250 ⟨4, rfl, zs_4, _, rfl, rfl⟩ rfl rfl (Nat.le_of_ble_eq_true rfl) dX8_luck_58 ?_
          refine Z_lconst (v := 1) hC dX8_luck_61 rfl ?_
          refine Z_lstore (V2 := [(5, .long 1), (0, .ref (ad 0 0)), (1, .int x1), (2, .int x2), (3, .int x3), (4, .int x4)]) hC dX8_luck_62 (by decide) rfl ?_
          refine Z_iconst (v := 0) hC dX8_luck_64 rfl ?_
          refine Z_istore (V2 := [(7, .int 0), (5, .long 1), (0, .ref (ad 0 0)), (1, .int x1), (2, .int x2), (3, .int x3), (4, .int x4)]) hC dX8_luck_65 (by decide) rfl ?_
          exact Z_pick [2, 3, 4, 5, 6, 1, 0] rfl k
        · have k := k.2 c16
          refine Z_ldc2 hC clX8_248 dX8_luck_41 ?_
          exact Z_lret hC dX8_luck_44 k.1 k.2
theorem eX8_luck {x1 : Int32} {x2 : Int32} {x3 : Int32} {x4 : Int32} {X : Option Value} {Y : ZS} {s : ZS} (k : ∀ C : ZC, Zok ad D ia C (d + 1) cX8_luck 8 RX8 (some .long) → (∃ (r2 : Int32) (s1 : ZS), Ev l ad D ia d mX8_outside [.int x1, .int 0, .int 10] s (some (.int r2)) s1 ∧ ((¬ r2 = 0 → (X = some (.long ((-1))) ∧ Y = s1)) ∧ (r2 = 0 → (∃ (r6 : Int32) (s5 : ZS), Ev l ad D ia d mX8_outside [.int x2, .int 0, .int 8] s1 (some (.int r6)) s5 ∧ ((¬ r6 = 0 → (X = some (.long ((-1))) ∧ Y = s5)) ∧ (r6 = 0 → (∃ (r10 : Int32) (s9 : ZS), Ev l ad D ia d mX8_outside [.int x3, .int 0, .int 9999] s5 (some (.int r10)) s9 ∧ ((¬ r10 = 0 → (X = some (.long ((-1))) ∧ Y = s9)) ∧ (r10 = 0 → (∃ (r14 : Int32) (s13 : ZS), Ev l ad D ia d mX8_outside [.int x4, .int 0, .int 1] s9 (some (.int r14)) s13 ∧ ((r14 = 0 → (∃ s17 : ZS, Ev l ad D ia d mX4_foresee [.ref (ad 18 0), .ref (ad 1 0), .ref (ad 2 0), .int x2] s13 none s17 ∧ Z l ad D ia C X Y 67 [(0, .ref (ad 0 0)), (1, .int x1), (2, .int x2), (3, .int x3), (4, .int x4), (5, .long 1), (7, .int 0)] [] s17)) ∧ (¬ r14 = 0 → (X = some (.long ((-1))) ∧ Y = s13)))))))))))))) : Ev l ad D ia (d + 1) mX8_luck [.ref (ad 0 0), .int x1, .int x2, .int x3, .int x4] s X Y :=
  Ev.start (by decide +kernel) (Nat.le_of_ble_eq_true rfl) (fun C hC => bX8_luck_0  hC (k C hC))
set_option maxRecDepth 100000 in
set_option maxHeartbeats 4000000 in
theorem bX8_luck_67 {x1 : Int32} {x2 : Int32} {x3 : Int32} {x4 : Int32} {y5 : Int64} {x7 : Int32} {C : ZC} {X : Option Value} {Y : ZS} {s : ZS} (hC : Zok ad D ia C (d + 1) cX8_luck 8 RX8 (some .long)) (k : ((x2 ≤ x7 → (∃ (r3 : Int64) (s2 : ZS), Ev l ad D ia d mX4_weightWithin [.ref (ad 18 0), .int x1, .int x3] s (some (.long r3)) s2 ∧ (∃ (r6 : Int64) (s5 : ZS), Ev l ad D ia d mX8_partOfFraction [.long r3, .long y5, .int x4] s2 (some (.long r6)) s5 ∧ (X = some (.long r6) ∧ Y = s5)))) ∧ (¬ x2 ≤ x7 → Z l ad D ia C X Y 67 [(0, .ref (ad 0 0)), (1, .int x1), (2, .int x2), (3, .int x3), (4, .int x4), (5, .long (y5 * ((10)))), (7, .int (x7 + 1))] [] s))) : Z l ad D ia C X Y 67 [(0, .ref (ad 0 0)), (1, .int x1), (2, .int x2), (3, .int x3), (4, .int x4), (5, .long y5), (7, .int x7)] [] s := by
  refine Z_iload hC dX8_luck_67 rfl ?_
  refine Z_iload_n hC dX8_luck_69 rfl rfl ?_
  refine Z_icmp_ge (tgt := 87) hC dX8_luck_70 (by decide) (fun c1 => ?_) (fun c1 => ?_)
  · have k := k.1 c1
    refine Z_aload_n hC dX8_luck_87 rfl rfl ?_
    refine Z_get (o := 0) (c := 8) (k := 10) (v := .ref (ad 18 0)) hC rfl zs_8 lkX8_55 rfl dX8_luck_88 ?_
    refine Z_iload_n hC dX8_luck_91 rfl rfl ?_
    refine Z_iload_n hC dX8_luck_92 rfl rfl ?_
    obtain ⟨r3, s2, h4, k⟩ := k
    refine Z_callV (As := [.int x1, .int x3]) (rest := []) hC h4 cvX8_256 ⟨4, rfl, zs_4, _, rfl, rfl⟩ rfl rfl (Nat.le_of_ble_eq_true rfl) dX8_luck_93 ?_
    refine Z_lload hC dX8_luck_96 rfl ?_
    refine Z_iload hC dX8_luck_98 rfl ?_
    obtain ⟨r6, s5, h7, k⟩ := k
    refine Z_callS (As := [.long r3, .long y5, .int x4]) (rest := []) hC h7 csX8_260 rfl rfl (Nat.le_of_ble_eq_true rfl) dX8_luck_100 ?_
    exact Z_lret hC dX8_luck_103 k.1 k.2
  · have k := k.2 c1
    refine Z_lload hC dX8_luck_73 rfl ?_
    refine Z_ldc2 hC clX8_254 dX8_luck_75 ?_
    refine Z_lmul hC dX8_luck_78 ?_
    refine Z_lstore (V2 := [(5, .long (y5 * ((10)))), (0, .ref (ad 0 0)), (1, .int x1), (2, .int x2), (3, .int x3), (4, .int x4), (7, .int x7)]) hC dX8_luck_79 (by decide) rfl ?_
    refine Z_iinc (v := x7 + 1) (V2 := [(7, .int (x7 + 1)), (5, .long (y5 * ((10)))), (0, .ref (ad 0 0)), (1, .int x1), (2, .int x2), (3, .int x3), (4, .int x4)]) hC dX8_luck_81 rfl rfl (by decide) rfl ?_
    refine Z_goto (tgt := 67) hC dX8_luck_84 (by decide) ?_
    exact Z_pick [2, 3, 4, 5, 6, 1, 0] rfl k
set_option maxRecDepth 100000 in
set_option maxHeartbeats 4000000 in
theorem bX8_mean_0 {x1 : Int32} {x2 : Int32} {x3 : Int32} {C : ZC} {X : Option Value} {Y : ZS} {s : ZS} (hC : Zok ad D ia C (d + 1) cX8_mean 4 RX8 (some .long)) (k : (∃ (r2 : Int32) (s1 : ZS), Ev l ad D ia d mX8_outside [.int x1, .int 0, .int 10] s (some (.int r2)) s1 ∧ ((¬ r2 = 0 → (X = some (.long ((-1))) ∧ Y = s1)) ∧ (r2 = 0 → (∃ (r6 : Int32) (s5 : ZS), Ev l ad D ia d mX8_outside [.int x2, .int 0, .int 8] s1 (some (.int r6)) s5 ∧ ((¬ r6 = 0 → (X = some (.long ((-1))) ∧ Y = s5)) ∧ (r6 = 0 → (∃ (r10 : Int32) (s9 : ZS), Ev l ad D ia d mX8_outside [.int x3, .int 0, .int 1] s5 (some (.int r10)) s9 ∧ ((r10 = 0 → (∃ s13 : ZS, Ev l ad D ia d mX4_foresee [.ref (ad 18 0), .ref (ad 1 0), .ref (ad 2 0), .int x2] s9 none s13 ∧ (∃ (r16 : Int64) (s15 : ZS), Ev l ad D ia d mX4_tenTimesMean [.ref (ad 18 0), .int x1] s13 (some (.long r16)) s15 ∧ (∃ (r19 : Int64) (s18 : ZS), Ev l ad D ia d mX8_partOfFraction [.long r16, .long ((10)), .int x3] s15 (some (.long r19)) s18 ∧ (X = some (.long r19) ∧ Y = s18))))) ∧ (¬ r10 = 0 → (X = some (.long ((-1))) ∧ Y = s9))))))))))) : Z l ad D ia C X Y 0 [(0, .ref (ad 0 0)), (1, .int x1), (2, .int x2), (3, .int x3)] [] s := by
  refine Z_iload_n hC dX8_mean_0 rfl rfl ?_
  refine Z_iconst (v := 0) hC dX8_mean_1 rfl ?_
  refine Z_bipush (v := 10) hC dX8_mean_2 rfl ?_
  obtain ⟨r2, s1, h3, k⟩ := k
  refine Z_callS (As := [.int x1, .int 0, .int 10]) (rest := []) hC h3 csX8_68 rfl rfl (Nat.le_of_ble_eq_true rfl) dX8_mean_4 ?_
  refine Z_if_ne (tgt := 29) hC dX8_mean_7 (by decide) (fun c4 => ?_) (fun c4 => ?_)
  · have k := k.1 c4
    refine Z_ldc2 hC clX8_248 dX8_mean_29 ?_
    exact Z_lret hC dX8_mean_32 k.1 k.2
  · have k := k.2 c4
    refine Z_iload_n hC dX8_mean_10 rfl rfl ?_
    refine Z_iconst (v := 0) hC dX8_mean_11 rfl ?_
    refine Z_bipush (v := 8) hC dX8_mean_12 rfl ?_
    obtain ⟨r6, s5, h7, k⟩ := k
    refine Z_callS (As := [.int x2, .int 0, .int 8]) (rest := []) hC h7 csX8_68 rfl rfl (Nat.le_of_ble_eq_true rfl) dX8_mean_14 ?_
    refine Z_if_ne (tgt := 29) hC dX8_mean_17 (by decide) (fun c8 => ?_) (fun c8 => ?_)
    · have k := k.1 c8
      refine Z_ldc2 hC clX8_248 dX8_mean_29 ?_
      exact Z_lret hC dX8_mean_32 k.1 k.2
    · have k := k.2 c8
      refine Z_iload_n hC dX8_mean_20 rfl rfl ?_
      refine Z_iconst (v := 0) hC dX8_mean_21 rfl ?_
      refine Z_iconst (v := 1) hC dX8_mean_22 rfl ?_
      obtain ⟨r10, s9, h11, k⟩ := k
      refine Z_callS (As := [.int x3, .int 0, .int 1]) (rest := []) hC h11 csX8_68 rfl rfl (Nat.le_of_ble_eq_true rfl) dX8_mean_23 ?_
      refine Z_if_eq (tgt := 33) hC dX8_mean_26 (by decide) (fun c12 => ?_) (fun c12 => ?_)
      · have k := k.1 c12
        refine Z_aload_n hC dX8_mean_33 rfl rfl ?_
        refine Z_get (o := 0) (c := 8) (k := 10) (v := .ref (ad 18 0)) hC rfl zs_8 lkX8_55 rfl dX8_mean_34 ?_
        refine Z_aload_n hC dX8_mean_37 rfl rfl ?_
        refine Z_get (o := 0) (c := 8) (k := 0) (v := .ref (ad 1 0)) hC rfl zs_8 lkX8_10 rfl dX8_mean_38 ?_
        refine Z_aload_n hC dX8_mean_41 rfl rfl ?_
        refine Z_get (o := 0) (c := 8) (k := 1) (v := .ref (ad 2 0)) hC rfl zs_8 lkX8_16 rfl dX8_mean_42 ?_
        refine Z_iload_n hC dX8_mean_45 rfl rfl ?_
        obtain ⟨s13, h14, k⟩ := k
        refine Z_callV (As := [.ref (ad 1 0), .ref (ad 2 0), .int x2]) (rest := []) hC h14 cvX8_250 ⟨4, rfl, zs_4, _, rfl, rfl⟩ rfl rfl (Nat.le_of_ble_eq_true rfl) dX8_mean_46 ?_
        refine Z_aload_n hC dX8_mean_49 rfl rfl ?_
        refine Z_get (o := 0) (c := 8) (k := 10) (v := .ref (ad 18 0)) hC rfl zs_8 lkX8_55 rfl dX8_mean_50 ?_
        refine Z_iload_n hC dX8_mean_53 rfl rfl ?_
        obtain ⟨r16, s15, h17, k⟩ := k
        refine Z_callV (As := [.int x1]) (rest := []) hC h17 cvX8_264 ⟨4, rfl, zs_4, _, rfl, rfl⟩ rfl rfl (Nat.le_of_ble_eq_true rfl) dX8_mean_54 ?_
        refine Z_ldc2 hC clX8_254 dX8_mean_57 ?_
        refine Z_iload_n hC dX8_mean_60 rfl rfl ?_
        obtain ⟨r19, s18, h20, k⟩ := k
        refine Z_callS (As := [.long r16, .long ((10)), .int x3]) (rest := []) hC h20 csX8_260 rfl rfl (Nat.le_of_ble_eq_true rfl) dX8_mean_61 ?_
        exact Z_lret hC dX8_mean_64 k.1 k.2
      · have k := k.2 c12
        refine Z_ldc2 hC clX8_248 dX8_mean_29 ?_
        exact Z_lret hC dX8_mean_32 k.1 k.2
theorem eX8_mean {x1 : Int32} {x2 : Int32} {x3 : Int32} {X : Option Value} {Y : ZS} {s : ZS} (k : (∃ (r2 : Int32) (s1 : ZS), Ev l ad D ia d mX8_outside [.int x1, .int 0, .int 10] s (some (.int r2)) s1 ∧ ((¬ r2 = 0 → (X = some (.long ((-1))) ∧ Y = s1)) ∧ (r2 = 0 → (∃ (r6 : Int32) (s5 : ZS), Ev l ad D ia d mX8_outside [.int x2, .int 0, .int 8] s1 (some (.int r6)) s5 ∧ ((¬ r6 = 0 → (X = some (.long ((-1))) ∧ Y = s5)) ∧ (r6 = 0 → (∃ (r10 : Int32) (s9 : ZS), Ev l ad D ia d mX8_outside [.int x3, .int 0, .int 1] s5 (some (.int r10)) s9 ∧ ((r10 = 0 → (∃ s13 : ZS, Ev l ad D ia d mX4_foresee [.ref (ad 18 0), .ref (ad 1 0), .ref (ad 2 0), .int x2] s9 none s13 ∧ (∃ (r16 : Int64) (s15 : ZS), Ev l ad D ia d mX4_tenTimesMean [.ref (ad 18 0), .int x1] s13 (some (.long r16)) s15 ∧ (∃ (r19 : Int64) (s18 : ZS), Ev l ad D ia d mX8_partOfFraction [.long r16, .long ((10)), .int x3] s15 (some (.long r19)) s18 ∧ (X = some (.long r19) ∧ Y = s18))))) ∧ (¬ r10 = 0 → (X = some (.long ((-1))) ∧ Y = s9))))))))))) : Ev l ad D ia (d + 1) mX8_mean [.ref (ad 0 0), .int x1, .int x2, .int x3] s X Y :=
  Ev.start (by decide +kernel) (Nat.le_of_ble_eq_true rfl) (fun C hC => bX8_mean_0  hC k)
set_option maxRecDepth 100000 in
set_option maxHeartbeats 4000000 in
theorem bX8_see_0 {x1 : Int32} {x2 : Int32} {x3 : Int32} {C : ZC} {X : Option Value} {Y : ZS} {s : ZS} (hC : Zok ad D ia C (d + 1) cX8_see 4 RX8 (some .int)) (k : (∃ (r2 : Int32) (s1 : ZS), Ev l ad D ia d mX8_outside [.int x1, .int 0, .int 20] s (some (.int r2)) s1 ∧ ((¬ r2 = 0 → (X = some (.int ((-1))) ∧ Y = s1)) ∧ (r2 = 0 → (∃ (r6 : Int32) (s5 : ZS), Ev l ad D ia d mX0_hasReader [.ref (ad 1 0), .int x2] s1 (some (.int r6)) s5 ∧ ((r6 = 0 → (X = some (.int ((-1))) ∧ Y = s5)) ∧ (¬ r6 = 0 → (∃ (r10 : Int32) (s9 : ZS), Ev l ad D ia d mX8_tellsBookOrNone [.int x3] s5 (some (.int r10)) s9 ∧ ((¬ r10 = 0 → ((((s9 7).1 0) < 6 → (∃ (r15 : Int32) (s14 : ZS), Ev l ad D ia d mX8_bookSaid [.int x3] s9 (some (.int r15)) s14 ∧ (∃ s17 : ZS, Ev l ad D ia d mX6_put [.ref (ad 7 0), .int x1, .int x2, .int r15] s14 none s17 ∧ (X = some (.int ((s17 7).1 0)) ∧ Y = s17)))) ∧ (¬ ((s9 7).1 0) < 6 → (X = some (.int ((-3))) ∧ Y = s9)))) ∧ (r10 = 0 → (X = some (.int ((-1))) ∧ Y = s9))))))))))) : Z l ad D ia C X Y 0 [(0, .ref (ad 0 0)), (1, .int x1), (2, .int x2), (3, .int x3)] [] s := by
  refine Z_iload_n hC dX8_see_0 rfl rfl ?_
  refine Z_iconst (v := 0) hC dX8_see_1 rfl ?_
  refine Z_bipush (v := 20) hC dX8_see_2 rfl ?_
  obtain ⟨r2, s1, h3, k⟩ := k
  refine Z_callS (As := [.int x1, .int 0, .int 20]) (rest := []) hC h3 csX8_68 rfl rfl (Nat.le_of_ble_eq_true rfl) dX8_see_4 ?_
  refine Z_if_ne (tgt := 28) hC dX8_see_7 (by decide) (fun c4 => ?_) (fun c4 => ?_)
  · have k := k.1 c4
    refine Z_iconst (v := (-1)) hC dX8_see_28 rfl ?_
    exact Z_iret hC dX8_see_29 k.1 k.2
  · have k := k.2 c4
    refine Z_aload_n hC dX8_see_10 rfl rfl ?_
    refine Z_get (o := 0) (c := 8) (k := 0) (v := .ref (ad 1 0)) hC rfl zs_8 lkX8_10 rfl dX8_see_11 ?_
    refine Z_iload_n hC dX8_see_14 rfl rfl ?_
    obtain ⟨r6, s5, h7, k⟩ := k
    refine Z_callV (As := [.int x2]) (rest := []) hC h7 cvX8_159 ⟨0, rfl, zs_0, _, rfl, rfl⟩ rfl rfl (Nat.le_of_ble_eq_true rfl) dX8_see_15 ?_
    refine Z_if_eq (tgt := 28) hC dX8_see_18 (by decide) (fun c8 => ?_) (fun c8 => ?_)
    · have k := k.1 c8
      refine Z_iconst (v := (-1)) hC dX8_see_28 rfl ?_
      exact Z_iret hC dX8_see_29 k.1 k.2
    · have k := k.2 c8
      refine Z_iload_n hC dX8_see_21 rfl rfl ?_
      obtain ⟨r10, s9, h11, k⟩ := k
      refine Z_callS (As := [.int x3]) (rest := []) hC h11 csX8_268 rfl rfl (Nat.le_of_ble_eq_true rfl) dX8_see_22 ?_
      refine Z_if_ne (tgt := 30) hC dX8_see_25 (by decide) (fun c12 => ?_) (fun c12 => ?_)
      · have k := k.1 c12
        refine Z_aload_n hC dX8_see_30 rfl rfl ?_
        refine Z_get (o := 0) (c := 8) (k := 4) (v := .ref (ad 7 0)) hC rfl zs_8 lkX8_29 rfl dX8_see_31 ?_
        refine Z_get (o := 7) (c := 6) (k := 0) (v := .int ((s9 7).1 0)) hC rfl zs_6 lkX8_113 rfl dX8_see_34 ?_
        refine Z_bipush (v := 6) hC dX8_see_37 rfl ?_
        refine Z_icmp_lt (tgt := 45) hC dX8_see_39 (by decide) (fun c13 => ?_) (fun c13 => ?_)
        · have k := k.1 c13
          refine Z_aload_n hC dX8_see_45 rfl rfl ?_
          refine Z_get (o := 0) (c := 8) (k := 4) (v := .ref (ad 7 0)) hC rfl zs_8 lkX8_29 rfl dX8_see_46 ?_
          refine Z_iload_n hC dX8_see_49 rfl rfl ?_
          refine Z_iload_n hC dX8_see_50 rfl rfl ?_
          refine Z_iload_n hC dX8_see_51 rfl rfl ?_
          obtain ⟨r15, s14, h16, k⟩ := k
          refine Z_callS (As := [.int x3]) (rest := [.int x2, .int x1, .ref (ad 7 0)]) hC h16 csX8_191 rfl rfl (Nat.le_of_ble_eq_true rfl) dX8_see_52 ?_
          obtain ⟨s17, h18, k⟩ := k
          refine Z_callV (As := [.int x1, .int x2, .int r15]) (rest := []) hC h18 cvX8_271 ⟨6, rfl, zs_6, _, rfl, rfl⟩ rfl rfl (Nat.le_of_ble_eq_true rfl) dX8_see_55 ?_
          refine Z_aload_n hC dX8_see_58 rfl rfl ?_
          refine Z_get (o := 0) (c := 8) (k := 4) (v := .ref (ad 7 0)) hC rfl zs_8 lkX8_29 rfl dX8_see_59 ?_
          refine Z_get (o := 7) (c := 6) (k := 0) (v := .int ((s17 7).1 0)) hC rfl zs_6 lkX8_113 rfl dX8_see_62 ?_
          exact Z_iret hC dX8_see_65 k.1 k.2
        · have k := k.2 c13
          refine Z_bipush (v := (-3)) hC dX8_see_42 rfl ?_
          exact Z_iret hC dX8_see_44 k.1 k.2
      · have k := k.2 c12
        refine Z_iconst (v := (-1)) hC dX8_see_28 rfl ?_
        exact Z_iret hC dX8_see_29 k.1 k.2
theorem eX8_see {x1 : Int32} {x2 : Int32} {x3 : Int32} {X : Option Value} {Y : ZS} {s : ZS} (k : (∃ (r2 : Int32) (s1 : ZS), Ev l ad D ia d mX8_outside [.int x1, .int 0, .int 20] s (some (.int r2)) s1 ∧ ((¬ r2 = 0 → (X = some (.int ((-1))) ∧ Y = s1)) ∧ (r2 = 0 → (∃ (r6 : Int32) (s5 : ZS), Ev l ad D ia d mX0_hasReader [.ref (ad 1 0), .int x2] s1 (some (.int r6)) s5 ∧ ((r6 = 0 → (X = some (.int ((-1))) ∧ Y = s5)) ∧ (¬ r6 = 0 → (∃ (r10 : Int32) (s9 : ZS), Ev l ad D ia d mX8_tellsBookOrNone [.int x3] s5 (some (.int r10)) s9 ∧ ((¬ r10 = 0 → ((((s9 7).1 0) < 6 → (∃ (r15 : Int32) (s14 : ZS), Ev l ad D ia d mX8_bookSaid [.int x3] s9 (some (.int r15)) s14 ∧ (∃ s17 : ZS, Ev l ad D ia d mX6_put [.ref (ad 7 0), .int x1, .int x2, .int r15] s14 none s17 ∧ (X = some (.int ((s17 7).1 0)) ∧ Y = s17)))) ∧ (¬ ((s9 7).1 0) < 6 → (X = some (.int ((-3))) ∧ Y = s9)))) ∧ (r10 = 0 → (X = some (.int ((-1))) ∧ Y = s9))))))))))) : Ev l ad D ia (d + 1) mX8_see [.ref (ad 0 0), .int x1, .int x2, .int x3] s X Y :=
  Ev.start (by decide +kernel) (Nat.le_of_ble_eq_true rfl) (fun C hC => bX8_see_0  hC k)
set_option maxRecDepth 100000 in
set_option maxHeartbeats 4000000 in
theorem bX8_forget_0 {x1 : Int32} {C : ZC} {X : Option Value} {Y : ZS} {s : ZS} (hC : Zok ad D ia C (d + 1) cX8_forget 3 RX8 (some .int)) (k : (∃ (r2 : Int32) (s1 : ZS), Ev l ad D ia d mX8_outside [.int x1, .int 0, .int ((s 7).1 0)] s (some (.int r2)) s1 ∧ ((r2 = 0 → (∀ s5 : ZS, s5 = stI s1 7 0 x1 → (X = some (.int ((s1 7).1 0)) ∧ Y = s5))) ∧ (¬ r2 = 0 → (X = some (.int ((-1))) ∧ Y = s1))))) : Z l ad D ia C X Y 0 [(0, .ref (ad 0 0)), (1, .int x1)] [] s := by
  refine Z_iload_n hC dX8_forget_0 rfl rfl ?_
  refine Z_iconst (v := 0) hC dX8_forget_1 rfl ?_
  refine Z_aload_n hC dX8_forget_2 rfl rfl ?_
  refine Z_get (o := 0) (c := 8) (k := 4) (v := .ref (ad 7 0)) hC rfl zs_8 lkX8_29 rfl dX8_forget_3 ?_
  refine Z_get (o := 7) (c := 6) (k := 0) (v := .int ((s 7).1 0)) hC rfl zs_6 lkX8_113 rfl dX8_forget_6 ?_
  obtain ⟨r2, s1, h3, k⟩ := k
  refine Z_callS (As := [.int x1, .int 0, .int ((s 7).1 0)]) (rest := []) hC h3 csX8_68 rfl rfl (Nat.le_of_ble_eq_true rfl) dX8_forget_9 ?_
  refine Z_if_eq (tgt := 17) hC dX8_forget_12 (by decide) (fun c4 => ?_) (fun c4 => ?_)
  · have k := k.1 c4
    refine Z_aload_n hC dX8_forget_17 rfl rfl ?_
    refine Z_get (o := 0) (c := 8) (k := 4) (v := .ref (ad 7 0)) hC rfl zs_8 lkX8_29 rfl dX8_forget_18 ?_
    refine Z_get (o := 7) (c := 6) (k := 0) (v := .int ((s1 7).1 0)) hC rfl zs_6 lkX8_113 rfl dX8_forget_21 ?_
    refine Z_istore_n (V2 := [(2, .int ((s1 7).1 0)), (0, .ref (ad 0 0)), (1, .int x1)]) hC dX8_forget_24 rfl (by decide) rfl ?_
    refine Z_aload_n hC dX8_forget_25 rfl rfl ?_
    refine Z_get (o := 0) (c := 8) (k := 4) (v := .ref (ad 7 0)) hC rfl zs_8 lkX8_29 rfl dX8_forget_26 ?_
    refine Z_iload_n hC dX8_forget_29 rfl rfl ?_
    refine Z_putI (o := 7) (k := 0) hC rfl zs_6 pkX8_113 rfl rfl (hsX6_0 _ _ _) dX8_forget_30 (fun s5 es5 => ?_)
    have k := k s5 es5
    refine Z_iload_n hC dX8_forget_33 rfl rfl ?_
    exact Z_iret hC dX8_forget_34 k.1 k.2
  · have k := k.2 c4
    refine Z_iconst (v := (-1)) hC dX8_forget_15 rfl ?_
    exact Z_iret hC dX8_forget_16 k.1 k.2
theorem eX8_forget {x1 : Int32} {X : Option Value} {Y : ZS} {s : ZS} (k : (∃ (r2 : Int32) (s1 : ZS), Ev l ad D ia d mX8_outside [.int x1, .int 0, .int ((s 7).1 0)] s (some (.int r2)) s1 ∧ ((r2 = 0 → (∀ s5 : ZS, s5 = stI s1 7 0 x1 → (X = some (.int ((s1 7).1 0)) ∧ Y = s5))) ∧ (¬ r2 = 0 → (X = some (.int ((-1))) ∧ Y = s1))))) : Ev l ad D ia (d + 1) mX8_forget [.ref (ad 0 0), .int x1] s X Y :=
  Ev.start (by decide +kernel) (Nat.le_of_ble_eq_true rfl) (fun C hC => bX8_forget_0  hC k)
set_option maxRecDepth 100000 in
set_option maxHeartbeats 4000000 in
theorem bX8_kinds_0 {x1 : Int32} {C : ZC} {X : Option Value} {Y : ZS} {s : ZS} (hC : Zok ad D ia C (d + 1) cX8_kinds 4 RX8 (some .int)) (k : (∃ (r2 : Int32) (s1 : ZS), Ev l ad D ia d mX0_hasReader [.ref (ad 1 0), .int x1] s (some (.int r2)) s1 ∧ ((¬ r2 = 0 → Z l ad D ia C X Y 17 [(0, .ref (ad 0 0)), (1, .int x1), (2, .int 0), (3, .int 0)] [] s1) ∧ (r2 = 0 → (X = some (.int ((-1))) ∧ Y = s1))))) : Z l ad D ia C X Y 0 [(0, .ref (ad 0 0)), (1, .int x1)] [] s := by
  refine Z_aload_n hC dX8_kinds_0 rfl rfl ?_
  refine Z_get (o := 0) (c := 8) (k := 0) (v := .ref (ad 1 0)) hC rfl zs_8 lkX8_10 rfl dX8_kinds_1 ?_
  refine Z_iload_n hC dX8_kinds_4 rfl rfl ?_
  obtain ⟨r2, s1, h3, k⟩ := k
  refine Z_callV (As := [.int x1]) (rest := []) hC h3 cvX8_159 ⟨0, rfl, zs_0, _, rfl, rfl⟩ rfl rfl (Nat.le_of_ble_eq_true rfl) dX8_kinds_5 ?_
  refine Z_if_ne (tgt := 13) hC dX8_kinds_8 (by decide) (fun c4 => ?_) (fun c4 => ?_)
  · have k := k.1 c4
    refine Z_iconst (v := 0) hC dX8_kinds_13 rfl ?_
    refine Z_istore_n (V2 := [(2, .int 0), (0, .ref (ad 0 0)), (1, .int x1)]) hC dX8_kinds_14 rfl (by decide) rfl ?_
    refine Z_iconst (v := 0) hC dX8_kinds_15 rfl ?_
    refine Z_istore_n (V2 := [(3, .int 0), (2, .int 0), (0, .ref (ad 0 0)), (1, .int x1)]) hC dX8_kinds_16 rfl (by decide) rfl ?_
    exact Z_pick [2, 3, 1, 0] rfl k
  · have k := k.2 c4
    refine Z_iconst (v := (-1)) hC dX8_kinds_11 rfl ?_
    exact Z_iret hC dX8_kinds_12 k.1 k.2
theorem eX8_kinds {x1 : Int32} {X : Option Value} {Y : ZS} {s : ZS} (k : ∀ C : ZC, Zok ad D ia C (d + 1) cX8_kinds 4 RX8 (some .int) → (∃ (r2 : Int32) (s1 : ZS), Ev l ad D ia d mX0_hasReader [.ref (ad 1 0), .int x1] s (some (.int r2)) s1 ∧ ((¬ r2 = 0 → Z l ad D ia C X Y 17 [(0, .ref (ad 0 0)), (1, .int x1), (2, .int 0), (3, .int 0)] [] s1) ∧ (r2 = 0 → (X = some (.int ((-1))) ∧ Y = s1))))) : Ev l ad D ia (d + 1) mX8_kinds [.ref (ad 0 0), .int x1] s X Y :=
  Ev.start (by decide +kernel) (Nat.le_of_ble_eq_true rfl) (fun C hC => bX8_kinds_0  hC (k C hC))
set_option maxRecDepth 100000 in
set_option maxHeartbeats 4000000 in
theorem bX8_kinds_17 {x1 : Int32} {x2 : Int32} {x3 : Int32} {C : ZC} {X : Option Value} {Y : ZS} {s : ZS} (hC : Zok ad D ia C (d + 1) cX8_kinds 4 RX8 (some .int)) (k : ((3 < x3 → (X = some (.int x2) ∧ Y = s)) ∧ (¬ 3 < x3 → (∃ s2 : ZS, Ev l ad D ia d mX8_beginTrial [.ref (ad 0 0)] s none s2 ∧ (vp_in x1 4 ∧ (∀ s5 : ZS, s5 = stA s2 2 5 x1.toNatClampNeg x3 → (∃ (r7 : Int32) (s6 : ZS), Ev l ad D ia d mX6_agreeWith [.ref (ad 7 0), .ref (ad 2 0)] s5 (some (.int r7)) s6 ∧ ((r7 = 0 → Z l ad D ia C X Y 17 [(0, .ref (ad 0 0)), (1, .int x1), (2, .int x2), (3, .int (x3 + 1))] [] s6) ∧ (¬ r7 = 0 → Z l ad D ia C X Y 17 [(0, .ref (ad 0 0)), (1, .int x1), (2, .int (x2 ||| (1 <<< (x3 &&& 31)))), (3, .int (x3 + 1))] [] s6))))))))) : Z l ad D ia C X Y 17 [(0, .ref (ad 0 0)), (1, .int x1), (2, .int x2), (3, .int x3)] [] s := by
  refine Z_iload_n hC dX8_kinds_17 rfl rfl ?_
  refine Z_iconst (v := 3) hC dX8_kinds_18 rfl ?_
  refine Z_icmp_gt (tgt := 62) hC dX8_kinds_19 (by decide) (fun c1 => ?_) (fun c1 => ?_)
  · have k := k.1 c1
    refine Z_iload_n hC dX8_kinds_62 rfl rfl ?_
    exact Z_iret hC dX8_kinds_63 k.1 k.2
  · have k := k.2 c1
    refine Z_aload_n hC dX8_kinds_22 rfl rfl ?_
    obtain ⟨s2, h3, k⟩ := k
    refine Z_callV (As := []) (rest := []) hC h3 cvX8_205 ⟨8, rfl, zs_8, _, rfl, rfl⟩ rfl rfl (Nat.le_of_ble_eq_true rfl) dX8_kinds_23 ?_
    refine Z_aload_n hC dX8_kinds_26 rfl rfl ?_
    refine Z_get (o := 0) (c := 8) (k := 1) (v := .ref (ad 2 0)) hC rfl zs_8 lkX8_16 rfl dX8_kinds_27 ?_
    refine Z_get (o := 2) (c := 0) (k := 5) (v := .ref (ad 2 6)) hC rfl zs_0 lkX8_162 rfl dX8_kinds_30 ?_
    refine Z_iload_n hC dX8_kinds_33 rfl rfl ?_
    refine Z_iload_n hC dX8_kinds_34 rfl rfl ?_
    obtain ⟨h4, k⟩ := k
    refine Z_iast2 (o := 2) (k := 5) hC (zis_of rfl rfl) h4 dX8_kinds_35 (fun s5 es5 => ?_)
    have k := k s5 es5
    refine Z_aload_n hC dX8_kinds_36 rfl rfl ?_
    refine Z_get (o := 0) (c := 8) (k := 4) (v := .ref (ad 7 0)) hC rfl zs_8 lkX8_29 rfl dX8_kinds_37 ?_
    refine Z_aload_n hC dX8_kinds_40 rfl rfl ?_
    refine Z_get (o := 0) (c := 8) (k := 1) (v := .ref (ad 2 0)) hC rfl zs_8 lkX8_16 rfl dX8_kinds_41 ?_
    obtain ⟨r7, s6, h8, k⟩ := k
    refine Z_callV (As := [.ref (ad 2 0)]) (rest := []) hC h8 cvX8_275 ⟨6, rfl, zs_6, _, rfl, rfl⟩ rfl rfl (Nat.le_of_ble_eq_true rfl) dX8_kinds_44 ?_
    refine Z_if_eq (tgt := 56) hC dX8_kinds_47 (by decide) (fun c9 => ?_) (fun c9 => ?_)
    · have k := k.1 c9
      refine Z_iinc (v := x3 + 1) (V2 := [(3, .int (x3 + 1)), (0, .ref (ad 0 0)), (1, .int x1), (2, .int x2)]) hC dX8_kinds_56 rfl rfl (by decide) rfl ?_
      refine Z_goto (tgt := 17) hC dX8_kinds_59 (by decide) ?_
      exact Z_pick [1, 2, 3, 0] rfl k
    · have k := k.2 c9
      refine Z_iload_n hC dX8_kinds_50 rfl rfl ?_
      refine Z_iconst (v := 1) hC dX8_kinds_51 rfl ?_
      refine Z_iload_n hC dX8_kinds_52 rfl rfl ?_
      refine Z_ishl hC dX8_kinds_53 ?_
      refine Z_ior hC dX8_kinds_54 ?_
      refine Z_istore_n (V2 := [(2, .int (x2 ||| (1 <<< (x3 &&& 31)))), (0, .ref (ad 0 0)), (1, .int x1), (3, .int x3)]) hC dX8_kinds_55 rfl (by decide) rfl ?_
      refine Z_iinc (v := x3 + 1) (V2 := [(3, .int (x3 + 1)), (2, .int (x2 ||| (1 <<< (x3 &&& 31)))), (0, .ref (ad 0 0)), (1, .int x1)]) hC dX8_kinds_56 rfl rfl (by decide) rfl ?_
      refine Z_goto (tgt := 17) hC dX8_kinds_59 (by decide) ?_
      exact Z_pick [2, 3, 1, 0] rfl k
set_option maxRecDepth 100000 in
set_option maxHeartbeats 4000000 in
theorem bX8_heights_0 {x1 : Int32} {C : ZC} {X : Option Value} {Y : ZS} {s : ZS} (hC : Zok ad D ia C (d + 1) cX8_heights 2 RX8 (some .int)) (k : (∃ (r2 : Int32) (s1 : ZS), Ev l ad D ia d mX0_hasBook [.ref (ad 1 0), .int x1] s (some (.int r2)) s1 ∧ ((r2 = 0 → (X = some (.int ((-1))) ∧ Y = s1)) ∧ (¬ r2 = 0 → (∃ (r6 : Int32) (s5 : ZS), Ev l ad D ia d mX8_heightsAsSeen [.ref (ad 0 0), .int x1] s1 (some (.int r6)) s5 ∧ (X = some (.int r6) ∧ Y = s5)))))) : Z l ad D ia C X Y 0 [(0, .ref (ad 0 0)), (1, .int x1)] [] s := by
  refine Z_aload_n hC dX8_heights_0 rfl rfl ?_
  refine Z_get (o := 0) (c := 8) (k := 0) (v := .ref (ad 1 0)) hC rfl zs_8 lkX8_10 rfl dX8_heights_1 ?_
  refine Z_iload_n hC dX8_heights_4 rfl rfl ?_
  obtain ⟨r2, s1, h3, k⟩ := k
  refine Z_callV (As := [.int x1]) (rest := []) hC h3 cvX8_142 ⟨0, rfl, zs_0, _, rfl, rfl⟩ rfl rfl (Nat.le_of_ble_eq_true rfl) dX8_heights_5 ?_
  refine Z_if_eq (tgt := 19) hC dX8_heights_8 (by decide) (fun c4 => ?_) (fun c4 => ?_)
  · have k := k.1 c4
    refine Z_iconst (v := (-1)) hC dX8_heights_19 rfl ?_
    exact Z_iret hC dX8_heights_20 k.1 k.2
  · have k := k.2 c4
    refine Z_aload_n hC dX8_heights_11 rfl rfl ?_
    refine Z_iload_n hC dX8_heights_12 rfl rfl ?_
    obtain ⟨r6, s5, h7, k⟩ := k
    refine Z_callV (As := [.int x1]) (rest := []) hC h7 cvX8_279 ⟨8, rfl, zs_8, _, rfl, rfl⟩ rfl rfl (Nat.le_of_ble_eq_true rfl) dX8_heights_13 ?_
    refine Z_goto (tgt := 20) hC dX8_heights_16 (by decide) ?_
    exact Z_iret hC dX8_heights_20 k.1 k.2
theorem eX8_heights {x1 : Int32} {X : Option Value} {Y : ZS} {s : ZS} (k : (∃ (r2 : Int32) (s1 : ZS), Ev l ad D ia d mX0_hasBook [.ref (ad 1 0), .int x1] s (some (.int r2)) s1 ∧ ((r2 = 0 → (X = some (.int ((-1))) ∧ Y = s1)) ∧ (¬ r2 = 0 → (∃ (r6 : Int32) (s5 : ZS), Ev l ad D ia d mX8_heightsAsSeen [.ref (ad 0 0), .int x1] s1 (some (.int r6)) s5 ∧ (X = some (.int r6) ∧ Y = s5)))))) : Ev l ad D ia (d + 1) mX8_heights [.ref (ad 0 0), .int x1] s X Y :=
  Ev.start (by decide +kernel) (Nat.le_of_ble_eq_true rfl) (fun C hC => bX8_heights_0  hC k)
set_option maxRecDepth 100000 in
set_option maxHeartbeats 4000000 in
theorem bX8_ask_0 {x1 : Int32} {x2 : Int32} {C : ZC} {X : Option Value} {Y : ZS} {s : ZS} (hC : Zok ad D ia C (d + 1) cX8_ask 9 RX8 (some .int)) (k : (∃ (r2 : Int32) (s1 : ZS), Ev l ad D ia d mX0_hasBook [.ref (ad 1 0), .int x1] s (some (.int r2)) s1 ∧ ((r2 = 0 → (X = some (.int ((-1))) ∧ Y = s1)) ∧ (¬ r2 = 0 → (∃ (r6 : Int32) (s5 : ZS), Ev l ad D ia d mX8_outside [.int x2, .int 0, .int 1] s1 (some (.int r6)) s5 ∧ ((r6 = 0 → (∃ (r10 : Int32) (s9 : ZS), Ev l ad D ia d mX8_heightsAsSeen [.ref (ad 0 0), .int x1] s5 (some (.int r10)) s9 ∧ (∃ s12 : ZS, Ev l ad D ia d mX2_foresee [.ref (ad 19 0), .ref (ad 1 0), .ref (ad 2 0), .int x1, .int r10] s9 none s12 ∧ (∃ (r15 : Int32) (s14 : ZS), Ev l ad D ia d mJ6_bitCount_0f7a4 [.int r10] s12 (some (.int r15)) s14 ∧ Z l ad D ia C X Y 58 [(0, .ref (ad 0 0)), (2, .int x2), (3, .int r10), (4, .int ((-4))), (5, .int r15), (6, .int 0)] [] s14)))) ∧ (¬ r6 = 0 → (X = some (.int ((-1))) ∧ Y = s5)))))))) : Z l ad D ia C X Y 0 [(0, .ref (ad 0 0)), (1, .int x1), (2, .int x2)] [] s := by
  refine Z_aload_n hC dX8_ask_0 rfl rfl ?_
  refine Z_get (o := 0) (c := 8) (k := 0) (v := .ref (ad 1 0)) hC rfl zs_8 lkX8_10 rfl dX8_ask_1 ?_
  refine Z_iload_n hC dX8_ask_4 rfl rfl ?_
  obtain ⟨r2, s1, h3, k⟩ := k
  refine Z_callV (As := [.int x1]) (rest := []) hC h3 cvX8_142 ⟨0, rfl, zs_0, _, rfl, rfl⟩ rfl rfl (Nat.le_of_ble_eq_true rfl) dX8_ask_5 ?_
  refine Z_if_eq (tgt := 20) hC dX8_ask_8 (by decide) (fun c4 => ?_) (fun c4 => ?_)
  · have k := k.1 c4
    refine Z_iconst (v := (-1)) hC dX8_ask_20 rfl ?_
    exact Z_iret hC dX8_ask_21 k.1 k.2
  · have k := k.2 c4
    refine Z_iload_n hC dX8_ask_11 rfl rfl ?_
    refine Z_iconst (v := 0) hC dX8_ask_12 rfl ?_
    refine Z_iconst (v := 1) hC dX8_ask_13 rfl ?_
    obtain ⟨r6, s5, h7, k⟩ := k
    refine Z_callS (As := [.int x2, .int 0, .int 1]) (rest := []) hC h7 csX8_68 rfl rfl (Nat.le_of_ble_eq_true rfl) dX8_ask_14 ?_
    refine Z_if_eq (tgt := 22) hC dX8_ask_17 (by decide) (fun c8 => ?_) (fun c8 => ?_)
    · have k := k.1 c8
      refine Z_aload_n hC dX8_ask_22 rfl rfl ?_
      refine Z_iload_n hC dX8_ask_23 rfl rfl ?_
      obtain ⟨r10, s9, h11, k⟩ := k
      refine Z_callV (As := [.int x1]) (rest := []) hC h11 cvX8_279 ⟨8, rfl, zs_8, _, rfl, rfl⟩ rfl rfl (Nat.le_of_ble_eq_true rfl) dX8_ask_24 ?_
      refine Z_istore_n (V2 := [(3, .int r10), (0, .ref (ad 0 0)), (1, .int x1), (2, .int x2)]) hC dX8_ask_27 rfl (by decide) rfl ?_
      refine Z_aload_n hC dX8_ask_28 rfl rfl ?_
      refine Z_get (o := 0) (c := 8) (k := 11) (v := .ref (ad 19 0)) hC rfl zs_8 lkX8_62 rfl dX8_ask_29 ?_
      refine Z_aload_n hC dX8_ask_32 rfl rfl ?_
      refine Z_get (o := 0) (c := 8) (k := 0) (v := .ref (ad 1 0)) hC rfl zs_8 lkX8_10 rfl dX8_ask_33 ?_
      refine Z_aload_n hC dX8_ask_36 rfl rfl ?_
      refine Z_get (o := 0) (c := 8) (k := 1) (v := .ref (ad 2 0)) hC rfl zs_8 lkX8_16 rfl dX8_ask_37 ?_
      refine Z_iload_n hC dX8_ask_40 rfl rfl ?_
      refine Z_iload_n hC dX8_ask_41 rfl rfl ?_
      obtain ⟨s12, h13, k⟩ := k
      refine Z_callV (As := [.ref (ad 1 0), .ref (ad 2 0), .int x1, .int r10]) (rest := []) hC h13 cvX8_282 ⟨2, rfl, zs_2, _, rfl, rfl⟩ rfl rfl (Nat.le_of_ble_eq_true rfl) dX8_ask_42 ?_
      refine Z_bipush (v := (-4)) hC dX8_ask_45 rfl ?_
      refine Z_istore (V2 := [(4, .int ((-4))), (3, .int r10), (0, .ref (ad 0 0)), (1, .int x1), (2, .int x2)]) hC dX8_ask_47 (by decide) rfl ?_
      refine Z_iload_n hC dX8_ask_49 rfl rfl ?_
      obtain ⟨r15, s14, h16, k⟩ := k
      refine Z_callS (As := [.int r10]) (rest := []) hC h16 csX8_194 rfl rfl (Nat.le_of_ble_eq_true rfl) dX8_ask_50 ?_
      refine Z_istore (V2 := [(5, .int r15), (4, .int ((-4))), (3, .int r10), (0, .ref (ad 0 0)), (1, .int x1), (2, .int x2)]) hC dX8_ask_53 (by decide) rfl ?_
      refine Z_iconst (v := 0) hC dX8_ask_55 rfl ?_
      refine Z_istore (V2 := [(6, .int 0), (5, .int r15), (4, .int ((-4))), (3, .int r10), (0, .ref (ad 0 0)), (1, .int x1), (2, .int x2)]) hC dX8_ask_56 (by decide) rfl ?_
      exact Z_pick [4, 6, 3, 2, 1, 0] rfl k
    · have k := k.2 c8
      refine Z_iconst (v := (-1)) hC dX8_ask_20 rfl ?_
      exact Z_iret hC dX8_ask_21 k.1 k.2
theorem eX8_ask {x1 : Int32} {x2 : Int32} {X : Option Value} {Y : ZS} {s : ZS} (k : ∀ C : ZC, Zok ad D ia C (d + 1) cX8_ask 9 RX8 (some .int) → (∃ (r2 : Int32) (s1 : ZS), Ev l ad D ia d mX0_hasBook [.ref (ad 1 0), .int x1] s (some (.int r2)) s1 ∧ ((r2 = 0 → (X = some (.int ((-1))) ∧ Y = s1)) ∧ (¬ r2 = 0 → (∃ (r6 : Int32) (s5 : ZS), Ev l ad D ia d mX8_outside [.int x2, .int 0, .int 1] s1 (some (.int r6)) s5 ∧ ((r6 = 0 → (∃ (r10 : Int32) (s9 : ZS), Ev l ad D ia d mX8_heightsAsSeen [.ref (ad 0 0), .int x1] s5 (some (.int r10)) s9 ∧ (∃ s12 : ZS, Ev l ad D ia d mX2_foresee [.ref (ad 19 0), .ref (ad 1 0), .ref (ad 2 0), .int x1, .int r10] s9 none s12 ∧ (∃ (r15 : Int32) (s14 : ZS), Ev l ad D ia d mJ6_bitCount_0f7a4 [.int r10] s12 (some (.int r15)) s14 ∧ Z l ad D ia C X Y 58 [(0, .ref (ad 0 0)), (2, .int x2), (3, .int r10), (4, .int ((-4))), (5, .int r15), (6, .int 0)] [] s14)))) ∧ (¬ r6 = 0 → (X = some (.int ((-1))) ∧ Y = s5)))))))) : Ev l ad D ia (d + 1) mX8_ask [.ref (ad 0 0), .int x1, .int x2] s X Y :=
  Ev.start (by decide +kernel) (Nat.le_of_ble_eq_true rfl) (fun C hC => bX8_ask_0  hC (k C hC))
set_option maxRecDepth 100000 in
set_option maxHeartbeats 4000000 in
theorem bX8_ask_58 {x2 : Int32} {x3 : Int32} {x4 : Int32} {x5 : Int32} {x6 : Int32} {C : ZC} {X : Option Value} {Y : ZS} {s : ZS} (hC : Zok ad D ia C (d + 1) cX8_ask 9 RX8 (some .int)) (k : ((20 < x6 → ((x4 = ((-4)) → (X = some (.int x4) ∧ Y = s)) ∧ (¬ x4 = ((-4)) → ((¬ x2 = 0 → (X = some (.int x5) ∧ Y = s)) ∧ (x2 = 0 → (X = some (.int x4) ∧ Y = s)))))) ∧ (¬ 20 < x6 → Z l ad D ia C X Y 68 [(0, .ref (ad 0 0)), (2, .int x2), (3, .int x3), (4, .int x4), (5, .int x5), (6, .int x6), (7, .int 0)] [] s))) : Z l ad D ia C X Y 58 [(0, .ref (ad 0 0)), (2, .int x2), (3, .int x3), (4, .int x4), (5, .int x5), (6, .int x6)] [] s := by
  refine Z_iload hC dX8_ask_58 rfl ?_
  refine Z_bipush (v := 20) hC dX8_ask_60 rfl ?_
  refine Z_icmp_gt (tgt := 127) hC dX8_ask_62 (by decide) (fun c1 => ?_) (fun c1 => ?_)
  · have k := k.1 c1
    refine Z_iload hC dX8_ask_127 rfl ?_
    refine Z_bipush (v := (-4)) hC dX8_ask_129 rfl ?_
    refine Z_icmp_eq (tgt := 138) hC dX8_ask_131 (by decide) (fun c2 => ?_) (fun c2 => ?_)
    · have k := k.1 c2
      refine Z_iload hC dX8_ask_138 rfl ?_
      refine Z_goto (tgt := 145) hC dX8_ask_140 (by decide) ?_
      exact Z_iret hC dX8_ask_145 k.1 k.2
    · have k := k.2 c2
      refine Z_iload_n hC dX8_ask_134 rfl rfl ?_
      refine Z_if_ne (tgt := 143) hC dX8_ask_135 (by decide) (fun c3 => ?_) (fun c3 => ?_)
      · have k := k.1 c3
        refine Z_iload hC dX8_ask_143 rfl ?_
        exact Z_iret hC dX8_ask_145 k.1 k.2
      · have k := k.2 c3
        refine Z_iload hC dX8_ask_138 rfl ?_
        refine Z_goto (tgt := 145) hC dX8_ask_140 (by decide) ?_
        exact Z_iret hC dX8_ask_145 k.1 k.2
  · have k := k.2 c1
    refine Z_iconst (v := 0) hC dX8_ask_65 rfl ?_
    refine Z_istore (V2 := [(7, .int 0), (0, .ref (ad 0 0)), (2, .int x2), (3, .int x3), (4, .int x4), (5, .int x5), (6, .int x6)]) hC dX8_ask_66 (by decide) rfl ?_
    exact Z_pick [1, 2, 3, 4, 5, 6, 0] rfl k
set_option maxRecDepth 100000 in
set_option maxHeartbeats 4000000 in
theorem bX8_ask_68 {x2 : Int32} {x3 : Int32} {x4 : Int32} {x5 : Int32} {x6 : Int32} {x7 : Int32} {C : ZC} {X : Option Value} {Y : ZS} {s : ZS} (hC : Zok ad D ia C (d + 1) cX8_ask 9 RX8 (some .int)) (k : ((((s 1).1 4) ≤ x7 → Z l ad D ia C X Y 58 [(0, .ref (ad 0 0)), (2, .int x2), (3, .int x3), (4, .int x4), (5, .int x5), (6, .int (x6 + 1))] [] s) ∧ (¬ ((s 1).1 4) ≤ x7 → (∃ (r3 : Int32) (s2 : ZS), Ev l ad D ia d mX2_mostLeft [.ref (ad 19 0), .int x3, .int x6, .int x7] s (some (.int r3)) s2 ∧ ((x5 ≤ r3 → Z l ad D ia C X Y 68 [(0, .ref (ad 0 0)), (2, .int x2), (3, .int x3), (4, .int x4), (5, .int x5), (6, .int x6), (7, .int (x7 + 1))] [] s2) ∧ (¬ x5 ≤ r3 → Z l ad D ia C X Y 68 [(0, .ref (ad 0 0)), (2, .int x2), (3, .int x3), (4, .int ((10 * x6) + x7)), (5, .int r3), (6, .int x6), (7, .int (x7 + 1))] [] s2)))))) : Z l ad D ia C X Y 68 [(0, .ref (ad 0 0)), (2, .int x2), (3, .int x3), (4, .int x4), (5, .int x5), (6, .int x6), (7, .int x7)] [] s := by
  refine Z_iload hC dX8_ask_68 rfl ?_
  refine Z_aload_n hC dX8_ask_70 rfl rfl ?_
  refine Z_get (o := 0) (c := 8) (k := 0) (v := .ref (ad 1 0)) hC rfl zs_8 lkX8_10 rfl dX8_ask_71 ?_
  refine Z_get (o := 1) (c := 0) (k := 4) (v := .int ((s 1).1 4)) hC rfl zs_0 lkX8_126 rfl dX8_ask_74 ?_
  refine Z_icmp_ge (tgt := 121) hC dX8_ask_77 (by decide) (fun c1 => ?_) (fun c1 => ?_)
  · have k := k.1 c1
    refine Z_iinc (v := x6 + 1) (V2 := [(6, .int (x6 + 1)), (0, .ref (ad 0 0)), (2, .int x2), (3, .int x3), (4, .int x4), (5, .int x5), (7, .int x7)]) hC dX8_ask_121 rfl rfl (by decide) rfl ?_
    refine Z_goto (tgt := 58) hC dX8_ask_124 (by decide) ?_
    exact Z_pick [1, 2, 3, 4, 5, 0] rfl k
  · have k := k.2 c1
    refine Z_aload_n hC dX8_ask_80 rfl rfl ?_
    refine Z_get (o := 0) (c := 8) (k := 11) (v := .ref (ad 19 0)) hC rfl zs_8 lkX8_62 rfl dX8_ask_81 ?_
    refine Z_iload_n hC dX8_ask_84 rfl rfl ?_
    refine Z_iload hC dX8_ask_85 rfl ?_
    refine Z_iload hC dX8_ask_87 rfl ?_
    obtain ⟨r3, s2, h4, k⟩ := k
    refine Z_callV (As := [.int x3, .int x6, .int x7]) (rest := []) hC h4 cvX8_285 ⟨2, rfl, zs_2, _, rfl, rfl⟩ rfl rfl (Nat.le_of_ble_eq_true rfl) dX8_ask_89 ?_
    refine Z_istore (V2 := [(8, .int r3), (0, .ref (ad 0 0)), (2, .int x2), (3, .int x3), (4, .int x4), (5, .int x5), (6, .int x6), (7, .int x7)]) hC dX8_ask_92 (by decide) rfl ?_
    refine Z_iload hC dX8_ask_94 rfl ?_
    refine Z_iload hC dX8_ask_96 rfl ?_
    refine Z_icmp_ge (tgt := 115) hC dX8_ask_98 (by decide) (fun c5 => ?_) (fun c5 => ?_)
    · have k := k.1 c5
      refine Z_iinc (v := x7 + 1) (V2 := [(7, .int (x7 + 1)), (8, .int r3), (0, .ref (ad 0 0)), (2, .int x2), (3, .int x3), (4, .int x4), (5, .int x5), (6, .int x6)]) hC dX8_ask_115 rfl rfl (by decide) rfl ?_
      refine Z_goto (tgt := 68) hC dX8_ask_118 (by decide) ?_
      exact Z_pick [2, 3, 4, 5, 6, 7, 0] rfl k
    · have k := k.2 c5
      refine Z_iload hC dX8_ask_101 rfl ?_
      refine Z_istore (V2 := [(5, .int r3), (8, .int r3), (0, .ref (ad 0 0)), (2, .int x2), (3, .int x3), (4, .int x4), (6, .int x6), (7, .int x7)]) hC dX8_ask_103 (by decide) rfl ?_
      refine Z_bipush (v := 10) hC dX8_ask_105 rfl ?_
      refine Z_iload hC dX8_ask_107 rfl ?_
      refine Z_imul hC dX8_ask_109 ?_
      refine Z_iload hC dX8_ask_110 rfl ?_
      refine Z_iadd hC dX8_ask_112 ?_
      refine Z_istore (V2 := [(4, .int ((10 * x6) + x7)), (5, .int r3), (8, .int r3), (0, .ref (ad 0 0)), (2, .int x2), (3, .int x3), (6, .int x6), (7, .int x7)]) hC dX8_ask_113 (by decide) rfl ?_
      refine Z_iinc (v := x7 + 1) (V2 := [(7, .int (x7 + 1)), (4, .int ((10 * x6) + x7)), (5, .int r3), (8, .int r3), (0, .ref (ad 0 0)), (2, .int x2), (3, .int x3), (6, .int x6)]) hC dX8_ask_115 rfl rfl (by decide) rfl ?_
      refine Z_goto (tgt := 68) hC dX8_ask_118 (by decide) ?_
      exact Z_pick [4, 5, 6, 1, 2, 7, 0] rfl k
set_option maxRecDepth 100000 in
set_option maxHeartbeats 4000000 in
theorem bX8_drift_0 {x1 : Int32} {x2 : Int32} {x3 : Int32} {C : ZC} {X : Option Value} {Y : ZS} {s : ZS} (hC : Zok ad D ia C (d + 1) cX8_drift 10 RX8 (some .int)) (k : (∃ (r2 : Int32) (s1 : ZS), Ev l ad D ia d mX8_outside [.int x2, .int 1, .int 60] s (some (.int r2)) s1 ∧ ((¬ r2 = 0 → (X = some (.int ((-1))) ∧ Y = s1)) ∧ (r2 = 0 → (∃ (r6 : Int32) (s5 : ZS), Ev l ad D ia d mX8_outside [.int x3, .int 0, .int 1] s1 (some (.int r6)) s5 ∧ ((r6 = 0 → ((((s5 1).1 0) ≤ 0 → (X = some (.int ((-2))) ∧ Y = s5)) ∧ (¬ ((s5 1).1 0) ≤ 0 → ((0 < ((s5 1).1 4) → (∃ s11 : ZS, Ev l ad D ia d mX8_beginTrial [.ref (ad 0 0)] s5 none s11 ∧ Z l ad D ia C X Y 62 [(0, .ref (ad 0 0)), (2, .int x2), (3, .int x3), (4, .int ((s5 1).1 0)), (5, .int ((s5 1).1 4)), (6, .int x1), (7, .int 0)] [] s11)) ∧ (¬ 0 < ((s5 1).1 4) → (X = some (.int ((-2))) ∧ Y = s5)))))) ∧ (¬ r6 = 0 → (X = some (.int ((-1))) ∧ Y = s5)))))))) : Z l ad D ia C X Y 0 [(0, .ref (ad 0 0)), (1, .int x1), (2, .int x2), (3, .int x3)] [] s := by
  refine Z_iload_n hC dX8_drift_0 rfl rfl ?_
  refine Z_iconst (v := 1) hC dX8_drift_1 rfl ?_
  refine Z_bipush (v := 60) hC dX8_drift_2 rfl ?_
  obtain ⟨r2, s1, h3, k⟩ := k
  refine Z_callS (As := [.int x2, .int 1, .int 60]) (rest := []) hC h3 csX8_68 rfl rfl (Nat.le_of_ble_eq_true rfl) dX8_drift_4 ?_
  refine Z_if_ne (tgt := 19) hC dX8_drift_7 (by decide) (fun c4 => ?_) (fun c4 => ?_)
  · have k := k.1 c4
    refine Z_iconst (v := (-1)) hC dX8_drift_19 rfl ?_
    exact Z_iret hC dX8_drift_20 k.1 k.2
  · have k := k.2 c4
    refine Z_iload_n hC dX8_drift_10 rfl rfl ?_
    refine Z_iconst (v := 0) hC dX8_drift_11 rfl ?_
    refine Z_iconst (v := 1) hC dX8_drift_12 rfl ?_
    obtain ⟨r6, s5, h7, k⟩ := k
    refine Z_callS (As := [.int x3, .int 0, .int 1]) (rest := []) hC h7 csX8_68 rfl rfl (Nat.le_of_ble_eq_true rfl) dX8_drift_13 ?_
    refine Z_if_eq (tgt := 21) hC dX8_drift_16 (by decide) (fun c8 => ?_) (fun c8 => ?_)
    · have k := k.1 c8
      refine Z_aload_n hC dX8_drift_21 rfl rfl ?_
      refine Z_get (o := 0) (c := 8) (k := 0) (v := .ref (ad 1 0)) hC rfl zs_8 lkX8_10 rfl dX8_drift_22 ?_
      refine Z_get (o := 1) (c := 0) (k := 0) (v := .int ((s5 1).1 0)) hC rfl zs_0 lkX8_123 rfl dX8_drift_25 ?_
      refine Z_istore (V2 := [(4, .int ((s5 1).1 0)), (0, .ref (ad 0 0)), (1, .int x1), (2, .int x2), (3, .int x3)]) hC dX8_drift_28 (by decide) rfl ?_
      refine Z_aload_n hC dX8_drift_30 rfl rfl ?_
      refine Z_get (o := 0) (c := 8) (k := 0) (v := .ref (ad 1 0)) hC rfl zs_8 lkX8_10 rfl dX8_drift_31 ?_
      refine Z_get (o := 1) (c := 0) (k := 4) (v := .int ((s5 1).1 4)) hC rfl zs_0 lkX8_126 rfl dX8_drift_34 ?_
      refine Z_istore (V2 := [(5, .int ((s5 1).1 4)), (4, .int ((s5 1).1 0)), (0, .ref (ad 0 0)), (1, .int x1), (2, .int x2), (3, .int x3)]) hC dX8_drift_37 (by decide) rfl ?_
      refine Z_iload hC dX8_drift_39 rfl ?_
      refine Z_if_le (tgt := 49) hC dX8_drift_41 (by decide) (fun c9 => ?_) (fun c9 => ?_)
      · have k := k.1 c9
        refine Z_bipush (v := (-2)) hC dX8_drift_49 rfl ?_
        exact Z_iret hC dX8_drift_51 k.1 k.2
      · have k := k.2 c9
        refine Z_iload hC dX8_drift_44 rfl ?_
        refine Z_if_gt (tgt := 52) hC dX8_drift_46 (by decide) (fun c10 => ?_) (fun c10 => ?_)
        · have k := k.1 c10
          refine Z_aload_n hC dX8_drift_52 rfl rfl ?_
          obtain ⟨s11, h12, k⟩ := k
          refine Z_callV (As := []) (rest := []) hC h12 cvX8_205 ⟨8, rfl, zs_8, _, rfl, rfl⟩ rfl rfl (Nat.le_of_ble_eq_true rfl) dX8_drift_53 ?_
          refine Z_iload_n hC dX8_drift_56 rfl rfl ?_
          refine Z_istore (V2 := [(6, .int x1), (5, .int ((s5 1).1 4)), (4, .int ((s5 1).1 0)), (0, .ref (ad 0 0)), (1, .int x1), (2, .int x2), (3, .int x3)]) hC dX8_drift_57 (by decide) rfl ?_
          refine Z_iconst (v := 0) hC dX8_drift_59 rfl ?_
          refine Z_istore (V2 := [(7, .int 0), (6, .int x1), (5, .int ((s5 1).1 4)), (4, .int ((s5 1).1 0)), (0, .ref (ad 0 0)), (1, .int x1), (2, .int x2), (3, .int x3)]) hC dX8_drift_60 (by decide) rfl ?_
          exact Z_pick [4, 6, 7, 3, 2, 1, 0] rfl k
        · have k := k.2 c10
          refine Z_bipush (v := (-2)) hC dX8_drift_49 rfl ?_
          exact Z_iret hC dX8_drift_51 k.1 k.2
    · have k := k.2 c8
      refine Z_iconst (v := (-1)) hC dX8_drift_19 rfl ?_
      exact Z_iret hC dX8_drift_20 k.1 k.2
theorem eX8_drift {x1 : Int32} {x2 : Int32} {x3 : Int32} {X : Option Value} {Y : ZS} {s : ZS} (k : ∀ C : ZC, Zok ad D ia C (d + 1) cX8_drift 10 RX8 (some .int) → (∃ (r2 : Int32) (s1 : ZS), Ev l ad D ia d mX8_outside [.int x2, .int 1, .int 60] s (some (.int r2)) s1 ∧ ((¬ r2 = 0 → (X = some (.int ((-1))) ∧ Y = s1)) ∧ (r2 = 0 → (∃ (r6 : Int32) (s5 : ZS), Ev l ad D ia d mX8_outside [.int x3, .int 0, .int 1] s1 (some (.int r6)) s5 ∧ ((r6 = 0 → ((((s5 1).1 0) ≤ 0 → (X = some (.int ((-2))) ∧ Y = s5)) ∧ (¬ ((s5 1).1 0) ≤ 0 → ((0 < ((s5 1).1 4) → (∃ s11 : ZS, Ev l ad D ia d mX8_beginTrial [.ref (ad 0 0)] s5 none s11 ∧ Z l ad D ia C X Y 62 [(0, .ref (ad 0 0)), (2, .int x2), (3, .int x3), (4, .int ((s5 1).1 0)), (5, .int ((s5 1).1 4)), (6, .int x1), (7, .int 0)] [] s11)) ∧ (¬ 0 < ((s5 1).1 4) → (X = some (.int ((-2))) ∧ Y = s5)))))) ∧ (¬ r6 = 0 → (X = some (.int ((-1))) ∧ Y = s5)))))))) : Ev l ad D ia (d + 1) mX8_drift [.ref (ad 0 0), .int x1, .int x2, .int x3] s X Y :=
  Ev.start (by decide +kernel) (Nat.le_of_ble_eq_true rfl) (fun C hC => bX8_drift_0  hC (k C hC))
set_option maxRecDepth 100000 in
set_option maxHeartbeats 4000000 in
theorem bX8_drift_62 {x2 : Int32} {x3 : Int32} {x4 : Int32} {x5 : Int32} {x6 : Int32} {x7 : Int32} {C : ZC} {X : Option Value} {Y : ZS} {s : ZS} (hC : Zok ad D ia C (d + 1) cX8_drift 10 RX8 (some .int)) (k : ((x2 ≤ x7 → ((¬ x3 = 0 → (∃ (r4 : Int32) (s3 : ZS), Ev l ad D ia d mX8_trialMinutes [.ref (ad 0 0)] s (some (.int r4)) s3 ∧ (X = some (.int r4) ∧ Y = s3))) ∧ (x3 = 0 → (X = some (.int ((s 2).1 12)) ∧ Y = s)))) ∧ (¬ x2 ≤ x7 → (¬ x5 = 0 ∧ (¬ x4 = 0 ∧ (vp_in (rm32 ((ushr ((x6 * ((1103515245))) + 12345) 16) &&& 32767) x5) 4 ∧ (∀ s10 : ZS, s10 = stA s 2 6 (rm32 ((ushr ((x6 * ((1103515245))) + 12345) 16) &&& 32767) x5).toNatClampNeg (rm32 (((ushr ((x6 * ((1103515245))) + 12345) 16) &&& 32767) / 8) x4) → (vp_in (rm32 ((ushr ((x6 * ((1103515245))) + 12345) 16) &&& 32767) x5) 4 ∧ (∀ s12 : ZS, s12 = stA s10 2 8 (rm32 ((ushr ((x6 * ((1103515245))) + 12345) 16) &&& 32767) x5).toNatClampNeg 0 → (∀ s15 : ZS, s15 = stI s12 2 9 (rm32 (((ushr ((x6 * ((1103515245))) + 12345) 16) &&& 32767) / 64) 8) → (∃ s16 : ZS, Ev l ad D ia d mX0_passDay [.ref (ad 2 0)] s15 none s16 ∧ Z l ad D ia C X Y 62 [(0, .ref (ad 0 0)), (2, .int x2), (3, .int x3), (4, .int x4), (5, .int x5), (6, .int ((x6 * ((1103515245))) + 12345)), (7, .int (x7 + 1))] [] s16))))))))))) : Z l ad D ia C X Y 62 [(0, .ref (ad 0 0)), (2, .int x2), (3, .int x3), (4, .int x4), (5, .int x5), (6, .int x6), (7, .int x7)] [] s := by
  refine Z_iload hC dX8_drift_62 rfl ?_
  refine Z_iload_n hC dX8_drift_64 rfl rfl ?_
  refine Z_icmp_ge (tgt := 155) hC dX8_drift_65 (by decide) (fun c1 => ?_) (fun c1 => ?_)
  · have k := k.1 c1
    refine Z_iload_n hC dX8_drift_155 rfl rfl ?_
    refine Z_if_ne (tgt := 169) hC dX8_drift_156 (by decide) (fun c2 => ?_) (fun c2 => ?_)
    · have k := k.1 c2
      refine Z_aload_n hC dX8_drift_169 rfl rfl ?_
      obtain ⟨r4, s3, h5, k⟩ := k
      refine Z_callV (As := []) (rest := []) hC h5 cvX8_218 ⟨8, rfl, zs_8, _, rfl, rfl⟩ rfl rfl (Nat.le_of_ble_eq_true rfl) dX8_drift_170 ?_
      exact Z_iret hC dX8_drift_173 k.1 k.2
    · have k := k.2 c2
      refine Z_aload_n hC dX8_drift_159 rfl rfl ?_
      refine Z_get (o := 0) (c := 8) (k := 1) (v := .ref (ad 2 0)) hC rfl zs_8 lkX8_16 rfl dX8_drift_160 ?_
      refine Z_get (o := 2) (c := 0) (k := 12) (v := .int ((s 2).1 12)) hC rfl zs_0 lkX8_212 rfl dX8_drift_163 ?_
      refine Z_goto (tgt := 173) hC dX8_drift_166 (by decide) ?_
      exact Z_iret hC dX8_drift_173 k.1 k.2
  · have k := k.2 c1
    refine Z_iload hC dX8_drift_68 rfl ?_
    refine Z_ldcw hC cnX8_289 dX8_drift_70 ?_
    refine Z_imul hC dX8_drift_73 ?_
    refine Z_sipush (v := 12345) hC dX8_drift_74 rfl ?_
    refine Z_iadd hC dX8_drift_77 ?_
    refine Z_istore (V2 := [(6, .int ((x6 * ((1103515245))) + 12345)), (0, .ref (ad 0 0)), (2, .int x2), (3, .int x3), (4, .int x4), (5, .int x5), (7, .int x7)]) hC dX8_drift_78 (by decide) rfl ?_
    refine Z_iload hC dX8_drift_80 rfl ?_
    refine Z_bipush (v := 16) hC dX8_drift_82 rfl ?_
    refine Z_iushr2 hC dX8_drift_84 ?_
    refine Z_sipush (v := 32767) hC dX8_drift_85 rfl ?_
    refine Z_iand hC dX8_drift_88 ?_
    refine Z_istore (V2 := [(8, .int ((ushr ((x6 * ((1103515245))) + 12345) 16) &&& 32767)), (6, .int ((x6 * ((1103515245))) + 12345)), (0, .ref (ad 0 0)), (2, .int x2), (3, .int x3), (4, .int x4), (5, .int x5), (7, .int x7)]) hC dX8_drift_89 (by decide) rfl ?_
    refine Z_iload hC dX8_drift_91 rfl ?_
    refine Z_iload hC dX8_drift_93 rfl ?_
    obtain ⟨h6, k⟩ := k
    refine Z_irem2 hC dX8_drift_95 h6 ?_
    refine Z_istore (V2 := [(9, .int (rm32 ((ushr ((x6 * ((1103515245))) + 12345) 16) &&& 32767) x5)), (8, .int ((ushr ((x6 * ((1103515245))) + 12345) 16) &&& 32767)), (6, .int ((x6 * ((1103515245))) + 12345)), (0, .ref (ad 0 0)), (2, .int x2), (3, .int x3), (4, .int x4), (5, .int x5), (7, .int x7)]) hC dX8_drift_96 (by decide) rfl ?_
    refine Z_aload_n hC dX8_drift_98 rfl rfl ?_
    refine Z_get (o := 0) (c := 8) (k := 1) (v := .ref (ad 2 0)) hC rfl zs_8 lkX8_16 rfl dX8_drift_99 ?_
    refine Z_get (o := 2) (c := 0) (k := 6) (v := .ref (ad 2 7)) hC rfl zs_0 lkX8_165 rfl dX8_drift_102 ?_
    refine Z_iload hC dX8_drift_105 rfl ?_
    refine Z_iload hC dX8_drift_107 rfl ?_
    refine Z_bipush (v := 8) hC dX8_drift_109 rfl ?_
    refine Z_idiv hC dX8_drift_111 (by decide) ?_
    refine Z_iload hC dX8_drift_112 rfl ?_
    obtain ⟨h8, k⟩ := k
    refine Z_irem2 hC dX8_drift_114 h8 ?_
    obtain ⟨h9, k⟩ := k
    refine Z_iast2 (o := 2) (k := 6) hC (zis_of rfl rfl) h9 dX8_drift_115 (fun s10 es10 => ?_)
    have k := k s10 es10
    refine Z_aload_n hC dX8_drift_116 rfl rfl ?_
    refine Z_get (o := 0) (c := 8) (k := 1) (v := .ref (ad 2 0)) hC rfl zs_8 lkX8_16 rfl dX8_drift_117 ?_
    refine Z_get (o := 2) (c := 0) (k := 8) (v := .ref (ad 2 9)) hC rfl zs_0 lkX8_171 rfl dX8_drift_120 ?_
    refine Z_iload hC dX8_drift_123 rfl ?_
    refine Z_iconst (v := 0) hC dX8_drift_125 rfl ?_
    obtain ⟨h11, k⟩ := k
    refine Z_iast2 (o := 2) (k := 8) hC (zis_of rfl rfl) h11 dX8_drift_126 (fun s12 es12 => ?_)
    have k := k s12 es12
    refine Z_aload_n hC dX8_drift_127 rfl rfl ?_
    refine Z_get (o := 0) (c := 8) (k := 1) (v := .ref (ad 2 0)) hC rfl zs_8 lkX8_16 rfl dX8_drift_128 ?_
    refine Z_iload hC dX8_drift_131 rfl ?_
    refine Z_bipush (v := 64) hC dX8_drift_133 rfl ?_
    refine Z_idiv hC dX8_drift_135 (by decide) ?_
    refine Z_bipush (v := 8) hC dX8_drift_136 rfl ?_
    refine Z_irem2 hC dX8_drift_138 (by decide) ?_
    refine Z_putI (o := 2) (k := 9) hC rfl zs_0 pkX8_129 rfl rfl (hsX0_9 _ _ _) dX8_drift_139 (fun s15 es15 => ?_)
    have k := k s15 es15
    refine Z_aload_n hC dX8_drift_142 rfl rfl ?_
    refine Z_get (o := 0) (c := 8) (k := 1) (v := .ref (ad 2 0)) hC rfl zs_8 lkX8_16 rfl dX8_drift_143 ?_
    obtain ⟨s16, h17, k⟩ := k
    refine Z_callV (As := []) (rest := []) hC h17 cvX8_290 ⟨0, rfl, zs_0, _, rfl, rfl⟩ rfl rfl (Nat.le_of_ble_eq_true rfl) dX8_drift_146 ?_
    refine Z_iinc (v := x7 + 1) (V2 := [(7, .int (x7 + 1)), (9, .int (rm32 ((ushr ((x6 * ((1103515245))) + 12345) 16) &&& 32767) x5)), (8, .int ((ushr ((x6 * ((1103515245))) + 12345) 16) &&& 32767)), (6, .int ((x6 * ((1103515245))) + 12345)), (0, .ref (ad 0 0)), (2, .int x2), (3, .int x3), (4, .int x4), (5, .int x5)]) hC dX8_drift_149 rfl rfl (by decide) rfl ?_
    refine Z_goto (tgt := 62) hC dX8_drift_152 (by decide) ?_
    exact Z_pick [4, 5, 6, 7, 8, 3, 0] rfl k
set_option maxRecDepth 100000 in
set_option maxHeartbeats 4000000 in
theorem bX8_keep_0 {x1 : Int32} {C : ZC} {X : Option Value} {Y : ZS} {s : ZS} (hC : Zok ad D ia C (d + 1) cX8_keep 3 RX8 (some .int)) (k : (∃ (r2 : Int32) (s1 : ZS), Ev l ad D ia d mX8_outside [.int x1, .int 0, .int 1] s (some (.int r2)) s1 ∧ ((r2 = 0 → (vp_in x1 2 ∧ (zcls (10 + x1.toNatClampNeg) = 1 ∧ ((((s1 (10 + x1.toNatClampNeg)).1 0) = 0 → (vp_in x1 2 ∧ (zcls (10 + x1.toNatClampNeg) = 1 ∧ (zcls (ztg (10 + x1.toNatClampNeg) 1) = 0 ∧ (∃ s11 : ZS, Ev l ad D ia d mX0_copyFrom [.ref (ad (ztg (10 + x1.toNatClampNeg) 1) 0), .ref (ad 1 0)] s1 none s11 ∧ (vp_in x1 2 ∧ (zcls (10 + x1.toNatClampNeg) = 1 ∧ (zcls (ztg (10 + x1.toNatClampNeg) 2) = 6 ∧ (∃ s16 : ZS, Ev l ad D ia d mX6_copyFrom [.ref (ad (ztg (10 + x1.toNatClampNeg) 2) 0), .ref (ad 7 0)] s11 none s16 ∧ (vp_in x1 2 ∧ (zcls (10 + x1.toNatClampNeg) = 1 ∧ (∀ s20 : ZS, s20 = stI s16 (10 + x1.toNatClampNeg) 0 1 → (X = some (.int 0) ∧ Y = s20))))))))))))) ∧ (¬ ((s1 (10 + x1.toNatClampNeg)).1 0) = 0 → (vp_in x1 2 ∧ (zcls (10 + x1.toNatClampNeg) = 1 ∧ (zcls (ztg (10 + x1.toNatClampNeg) 1) = 0 ∧ (∃ s24 : ZS, Ev l ad D ia d mX0_copyFrom [.ref (ad (ztg (10 + x1.toNatClampNeg) 1) 0), .ref (ad 1 0)] s1 none s24 ∧ (vp_in x1 2 ∧ (zcls (10 + x1.toNatClampNeg) = 1 ∧ (zcls (ztg (10 + x1.toNatClampNeg) 2) = 6 ∧ (∃ s29 : ZS, Ev l ad D ia d mX6_copyFrom [.ref (ad (ztg (10 + x1.toNatClampNeg) 2) 0), .ref (ad 7 0)] s24 none s29 ∧ (vp_in x1 2 ∧ (zcls (10 + x1.toNatClampNeg) = 1 ∧ (∀ s33 : ZS, s33 = stI s29 (10 + x1.toNatClampNeg) 0 1 → (X = some (.int 1) ∧ Y = s33))))))))))))))))) ∧ (¬ r2 = 0 → (X = some (.int ((-1))) ∧ Y = s1))))) : Z l ad D ia C X Y 0 [(0, .ref (ad 0 0)), (1, .int x1)] [] s := by
  refine Z_iload_n hC dX8_keep_0 rfl rfl ?_
  refine Z_iconst (v := 0) hC dX8_keep_1 rfl ?_
  refine Z_iconst (v := 1) hC dX8_keep_2 rfl ?_
  obtain ⟨r2, s1, h3, k⟩ := k
  refine Z_callS (As := [.int x1, .int 0, .int 1]) (rest := []) hC h3 csX8_68 rfl rfl (Nat.le_of_ble_eq_true rfl) dX8_keep_3 ?_
  refine Z_if_eq (tgt := 11) hC dX8_keep_6 (by decide) (fun c4 => ?_) (fun c4 => ?_)
  · have k := k.1 c4
    refine Z_aload_n hC dX8_keep_11 rfl rfl ?_
    refine Z_get (o := 0) (c := 8) (k := 5) (v := .ref (ad 0 6)) hC rfl zs_8 lkX8_35 rfl dX8_keep_12 ?_
    refine Z_iload_n hC dX8_keep_15 rfl rfl ?_
    obtain ⟨h5, k⟩ := k
    refine Z_aaldM hC h5 dX8_keep_16 ?_
    obtain ⟨h6, k⟩ := k
    refine Z_get (o := 10 + x1.toNatClampNeg) (c := 1) (k := 0) (v := .int ((s1 (10 + x1.toNatClampNeg)).1 0)) hC h6 zs_1 lkX8_116 rfl dX8_keep_17 ?_
    refine Z_if_eq (tgt := 27) hC dX8_keep_20 (by decide) (fun c7 => ?_) (fun c7 => ?_)
    · have k := k.1 c7
      refine Z_iconst (v := 0) hC dX8_keep_27 rfl ?_
      refine Z_istore_n (V2 := [(2, .int 0), (0, .ref (ad 0 0)), (1, .int x1)]) hC dX8_keep_28 rfl (by decide) rfl ?_
      refine Z_aload_n hC dX8_keep_29 rfl rfl ?_
      refine Z_get (o := 0) (c := 8) (k := 5) (v := .ref (ad 0 6)) hC rfl zs_8 lkX8_35 rfl dX8_keep_30 ?_
      refine Z_iload_n hC dX8_keep_33 rfl rfl ?_
      obtain ⟨h8, k⟩ := k
      refine Z_aaldM hC h8 dX8_keep_34 ?_
      obtain ⟨h9, k⟩ := k
      refine Z_get (o := 10 + x1.toNatClampNeg) (c := 1) (k := 1) (v := .ref (ad (ztg (10 + x1.toNatClampNeg) 1) 0)) hC h9 zs_1 lkX8_293 rfl dX8_keep_35 ?_
      obtain ⟨h10, k⟩ := k
      refine Z_aload_n hC dX8_keep_38 rfl rfl ?_
      refine Z_get (o := 0) (c := 8) (k := 0) (v := .ref (ad 1 0)) hC rfl zs_8 lkX8_10 rfl dX8_keep_39 ?_
      obtain ⟨s11, h12, k⟩ := k
      refine Z_callV (As := [.ref (ad 1 0)]) (rest := []) hC h12 cvX8_109 ⟨0, h10, zs_0, _, rfl, rfl⟩ rfl rfl (Nat.le_of_ble_eq_true rfl) dX8_keep_42 ?_
      refine Z_aload_n hC dX8_keep_45 rfl rfl ?_
      refine Z_get (o := 0) (c := 8) (k := 5) (v := .ref (ad 0 6)) hC rfl zs_8 lkX8_35 rfl dX8_keep_46 ?_
      refine Z_iload_n hC dX8_keep_49 rfl rfl ?_
      obtain ⟨h13, k⟩ := k
      refine Z_aaldM hC h13 dX8_keep_50 ?_
      obtain ⟨h14, k⟩ := k
      refine Z_get (o := 10 + x1.toNatClampNeg) (c := 1) (k := 2) (v := .ref (ad (ztg (10 + x1.toNatClampNeg) 2) 0)) hC h14 zs_1 lkX8_294 rfl dX8_keep_51 ?_
      obtain ⟨h15, k⟩ := k
      refine Z_aload_n hC dX8_keep_54 rfl rfl ?_
      refine Z_get (o := 0) (c := 8) (k := 4) (v := .ref (ad 7 0)) hC rfl zs_8 lkX8_29 rfl dX8_keep_55 ?_
      obtain ⟨s16, h17, k⟩ := k
      refine Z_callV (As := [.ref (ad 7 0)]) (rest := []) hC h17 cvX8_295 ⟨6, h15, zs_6, _, rfl, rfl⟩ rfl rfl (Nat.le_of_ble_eq_true rfl) dX8_keep_58 ?_
      refine Z_aload_n hC dX8_keep_61 rfl rfl ?_
      refine Z_get (o := 0) (c := 8) (k := 5) (v := .ref (ad 0 6)) hC rfl zs_8 lkX8_35 rfl dX8_keep_62 ?_
      refine Z_iload_n hC dX8_keep_65 rfl rfl ?_
      obtain ⟨h18, k⟩ := k
      refine Z_aaldM hC h18 dX8_keep_66 ?_
      obtain ⟨h19, k⟩ := k
      refine Z_iconst (v := 1) hC dX8_keep_67 rfl ?_
      refine Z_putI (o := 10 + x1.toNatClampNeg) (k := 0) hC h19 zs_1 pkX8_116 rfl rfl (hsX1_0 _ _ _) dX8_keep_68 (fun s20 es20 => ?_)
      have k := k s20 es20
      refine Z_iload_n hC dX8_keep_71 rfl rfl ?_
      exact Z_iret hC dX8_keep_72 k.1 k.2
    · have k := k.2 c7
      refine Z_iconst (v := 1) hC dX8_keep_23 rfl ?_
      refine Z_goto (tgt := 28) hC dX8_keep_24 (by decide) ?_
      refine Z_istore_n (V2 := [(2, .int 1), (0, .ref (ad 0 0)), (1, .int x1)]) hC dX8_keep_28 rfl (by decide) rfl ?_
      refine Z_aload_n hC dX8_keep_29 rfl rfl ?_
      refine Z_get (o := 0) (c := 8) (k := 5) (v := .ref (ad 0 6)) hC rfl zs_8 lkX8_35 rfl dX8_keep_30 ?_
      refine Z_iload_n hC dX8_keep_33 rfl rfl ?_
      obtain ⟨h21, k⟩ := k
      refine Z_aaldM hC h21 dX8_keep_34 ?_
      obtain ⟨h22, k⟩ := k
      refine Z_get (o := 10 + x1.toNatClampNeg) (c := 1) (k := 1) (v := .ref (ad (ztg (10 + x1.toNatClampNeg) 1) 0)) hC h22 zs_1 lkX8_293 rfl dX8_keep_35 ?_
      obtain ⟨h23, k⟩ := k
      refine Z_aload_n hC dX8_keep_38 rfl rfl ?_
      refine Z_get (o := 0) (c := 8) (k := 0) (v := .ref (ad 1 0)) hC rfl zs_8 lkX8_10 rfl dX8_keep_39 ?_
      obtain ⟨s24, h25, k⟩ := k
      refine Z_callV (As := [.ref (ad 1 0)]) (rest := []) hC h25 cvX8_109 ⟨0, h23, zs_0, _, rfl, rfl⟩ rfl rfl (Nat.le_of_ble_eq_true rfl) dX8_keep_42 ?_
      refine Z_aload_n hC dX8_keep_45 rfl rfl ?_
      refine Z_get (o := 0) (c := 8) (k := 5) (v := .ref (ad 0 6)) hC rfl zs_8 lkX8_35 rfl dX8_keep_46 ?_
      refine Z_iload_n hC dX8_keep_49 rfl rfl ?_
      obtain ⟨h26, k⟩ := k
      refine Z_aaldM hC h26 dX8_keep_50 ?_
      obtain ⟨h27, k⟩ := k
      refine Z_get (o := 10 + x1.toNatClampNeg) (c := 1) (k := 2) (v := .ref (ad (ztg (10 + x1.toNatClampNeg) 2) 0)) hC h27 zs_1 lkX8_294 rfl dX8_keep_51 ?_
      obtain ⟨h28, k⟩ := k
      refine Z_aload_n hC dX8_keep_54 rfl rfl ?_
      refine Z_get (o := 0) (c := 8) (k := 4) (v := .ref (ad 7 0)) hC rfl zs_8 lkX8_29 rfl dX8_keep_55 ?_
      obtain ⟨s29, h30, k⟩ := k
      refine Z_callV (As := [.ref (ad 7 0)]) (rest := []) hC h30 cvX8_295 ⟨6, h28, zs_6, _, rfl, rfl⟩ rfl rfl (Nat.le_of_ble_eq_true rfl) dX8_keep_58 ?_
      refine Z_aload_n hC dX8_keep_61 rfl rfl ?_
      refine Z_get (o := 0) (c := 8) (k := 5) (v := .ref (ad 0 6)) hC rfl zs_8 lkX8_35 rfl dX8_keep_62 ?_
      refine Z_iload_n hC dX8_keep_65 rfl rfl ?_
      obtain ⟨h31, k⟩ := k
      refine Z_aaldM hC h31 dX8_keep_66 ?_
      obtain ⟨h32, k⟩ := k
      refine Z_iconst (v := 1) hC dX8_keep_67 rfl ?_
      refine Z_putI (o := 10 + x1.toNatClampNeg) (k := 0) hC h32 zs_1 pkX8_116 rfl rfl (hsX1_0 _ _ _) dX8_keep_68 (fun s33 es33 => ?_)
      have k := k s33 es33
      refine Z_iload_n hC dX8_keep_71 rfl rfl ?_
      exact Z_iret hC dX8_keep_72 k.1 k.2
  · have k := k.2 c4
    refine Z_iconst (v := (-1)) hC dX8_keep_9 rfl ?_
    exact Z_iret hC dX8_keep_10 k.1 k.2
theorem eX8_keep {x1 : Int32} {X : Option Value} {Y : ZS} {s : ZS} (k : (∃ (r2 : Int32) (s1 : ZS), Ev l ad D ia d mX8_outside [.int x1, .int 0, .int 1] s (some (.int r2)) s1 ∧ ((r2 = 0 → (vp_in x1 2 ∧ (zcls (10 + x1.toNatClampNeg) = 1 ∧ ((((s1 (10 + x1.toNatClampNeg)).1 0) = 0 → (vp_in x1 2 ∧ (zcls (10 + x1.toNatClampNeg) = 1 ∧ (zcls (ztg (10 + x1.toNatClampNeg) 1) = 0 ∧ (∃ s11 : ZS, Ev l ad D ia d mX0_copyFrom [.ref (ad (ztg (10 + x1.toNatClampNeg) 1) 0), .ref (ad 1 0)] s1 none s11 ∧ (vp_in x1 2 ∧ (zcls (10 + x1.toNatClampNeg) = 1 ∧ (zcls (ztg (10 + x1.toNatClampNeg) 2) = 6 ∧ (∃ s16 : ZS, Ev l ad D ia d mX6_copyFrom [.ref (ad (ztg (10 + x1.toNatClampNeg) 2) 0), .ref (ad 7 0)] s11 none s16 ∧ (vp_in x1 2 ∧ (zcls (10 + x1.toNatClampNeg) = 1 ∧ (∀ s20 : ZS, s20 = stI s16 (10 + x1.toNatClampNeg) 0 1 → (X = some (.int 0) ∧ Y = s20))))))))))))) ∧ (¬ ((s1 (10 + x1.toNatClampNeg)).1 0) = 0 → (vp_in x1 2 ∧ (zcls (10 + x1.toNatClampNeg) = 1 ∧ (zcls (ztg (10 + x1.toNatClampNeg) 1) = 0 ∧ (∃ s24 : ZS, Ev l ad D ia d mX0_copyFrom [.ref (ad (ztg (10 + x1.toNatClampNeg) 1) 0), .ref (ad 1 0)] s1 none s24 ∧ (vp_in x1 2 ∧ (zcls (10 + x1.toNatClampNeg) = 1 ∧ (zcls (ztg (10 + x1.toNatClampNeg) 2) = 6 ∧ (∃ s29 : ZS, Ev l ad D ia d mX6_copyFrom [.ref (ad (ztg (10 + x1.toNatClampNeg) 2) 0), .ref (ad 7 0)] s24 none s29 ∧ (vp_in x1 2 ∧ (zcls (10 + x1.toNatClampNeg) = 1 ∧ (∀ s33 : ZS, s33 = stI s29 (10 + x1.toNatClampNeg) 0 1 → (X = some (.int 1) ∧ Y = s33))))))))))))))))) ∧ (¬ r2 = 0 → (X = some (.int ((-1))) ∧ Y = s1))))) : Ev l ad D ia (d + 1) mX8_keep [.ref (ad 0 0), .int x1] s X Y :=
  Ev.start (by decide +kernel) (Nat.le_of_ble_eq_true rfl) (fun C hC => bX8_keep_0  hC k)
set_option maxRecDepth 100000 in
set_option maxHeartbeats 4000000 in
theorem bX8_back_0 {x1 : Int32} {C : ZC} {X : Option Value} {Y : ZS} {s : ZS} (hC : Zok ad D ia C (d + 1) cX8_back 2 RX8 (some .int)) (k : (∃ (r2 : Int32) (s1 : ZS), Ev l ad D ia d mX8_outside [.int x1, .int 0, .int 1] s (some (.int r2)) s1 ∧ ((r2 = 0 → (vp_in x1 2 ∧ (zcls (10 + x1.toNatClampNeg) = 1 ∧ ((¬ ((s1 (10 + x1.toNatClampNeg)).1 0) = 0 → (vp_in x1 2 ∧ (zcls (10 + x1.toNatClampNeg) = 1 ∧ (zcls (ztg (10 + x1.toNatClampNeg) 1) = 0 ∧ (∃ s11 : ZS, Ev l ad D ia d mX0_copyFrom [.ref (ad 1 0), .ref (ad (ztg (10 + x1.toNatClampNeg) 1) 0)] s1 none s11 ∧ (vp_in x1 2 ∧ (zcls (10 + x1.toNatClampNeg) = 1 ∧ (zcls (ztg (10 + x1.toNatClampNeg) 2) = 6 ∧ (∃ s16 : ZS, Ev l ad D ia d mX6_copyFrom [.ref (ad 7 0), .ref (ad (ztg (10 + x1.toNatClampNeg) 2) 0)] s11 none s16 ∧ (X = some (.int ((s16 1).1 10)) ∧ Y = s16)))))))))) ∧ (((s1 (10 + x1.toNatClampNeg)).1 0) = 0 → (X = some (.int ((-2))) ∧ Y = s1)))))) ∧ (¬ r2 = 0 → (X = some (.int ((-1))) ∧ Y = s1))))) : Z l ad D ia C X Y 0 [(0, .ref (ad 0 0)), (1, .int x1)] [] s := by
  refine Z_iload_n hC dX8_back_0 rfl rfl ?_
  refine Z_iconst (v := 0) hC dX8_back_1 rfl ?_
  refine Z_iconst (v := 1) hC dX8_back_2 rfl ?_
  obtain ⟨r2, s1, h3, k⟩ := k
  refine Z_callS (As := [.int x1, .int 0, .int 1]) (rest := []) hC h3 csX8_68 rfl rfl (Nat.le_of_ble_eq_true rfl) dX8_back_3 ?_
  refine Z_if_eq (tgt := 11) hC dX8_back_6 (by decide) (fun c4 => ?_) (fun c4 => ?_)
  · have k := k.1 c4
    refine Z_aload_n hC dX8_back_11 rfl rfl ?_
    refine Z_get (o := 0) (c := 8) (k := 5) (v := .ref (ad 0 6)) hC rfl zs_8 lkX8_35 rfl dX8_back_12 ?_
    refine Z_iload_n hC dX8_back_15 rfl rfl ?_
    obtain ⟨h5, k⟩ := k
    refine Z_aaldM hC h5 dX8_back_16 ?_
    obtain ⟨h6, k⟩ := k
    refine Z_get (o := 10 + x1.toNatClampNeg) (c := 1) (k := 0) (v := .int ((s1 (10 + x1.toNatClampNeg)).1 0)) hC h6 zs_1 lkX8_116 rfl dX8_back_17 ?_
    refine Z_if_ne (tgt := 26) hC dX8_back_20 (by decide) (fun c7 => ?_) (fun c7 => ?_)
    · have k := k.1 c7
      refine Z_aload_n hC dX8_back_26 rfl rfl ?_
      refine Z_get (o := 0) (c := 8) (k := 0) (v := .ref (ad 1 0)) hC rfl zs_8 lkX8_10 rfl dX8_back_27 ?_
      refine Z_aload_n hC dX8_back_30 rfl rfl ?_
      refine Z_get (o := 0) (c := 8) (k := 5) (v := .ref (ad 0 6)) hC rfl zs_8 lkX8_35 rfl dX8_back_31 ?_
      refine Z_iload_n hC dX8_back_34 rfl rfl ?_
      obtain ⟨h8, k⟩ := k
      refine Z_aaldM hC h8 dX8_back_35 ?_
      obtain ⟨h9, k⟩ := k
      refine Z_get (o := 10 + x1.toNatClampNeg) (c := 1) (k := 1) (v := .ref (ad (ztg (10 + x1.toNatClampNeg) 1) 0)) hC h9 zs_1 lkX8_293 rfl dX8_back_36 ?_
      obtain ⟨h10, k⟩ := k
      obtain ⟨s11, h12, k⟩ := k
      refine Z_callV (As := [.ref (ad (ztg (10 + x1.toNatClampNeg) 1) 0)]) (rest := []) hC h12 cvX8_109 ⟨0, rfl, zs_0, _, rfl, rfl⟩ rfl rfl (Nat.le_of_ble_eq_true rfl) dX8_back_39 ?_
      refine Z_aload_n hC dX8_back_42 rfl rfl ?_
      refine Z_get (o := 0) (c := 8) (k := 4) (v := .ref (ad 7 0)) hC rfl zs_8 lkX8_29 rfl dX8_back_43 ?_
      refine Z_aload_n hC dX8_back_46 rfl rfl ?_
      refine Z_get (o := 0) (c := 8) (k := 5) (v := .ref (ad 0 6)) hC rfl zs_8 lkX8_35 rfl dX8_back_47 ?_
      refine Z_iload_n hC dX8_back_50 rfl rfl ?_
      obtain ⟨h13, k⟩ := k
      refine Z_aaldM hC h13 dX8_back_51 ?_
      obtain ⟨h14, k⟩ := k
      refine Z_get (o := 10 + x1.toNatClampNeg) (c := 1) (k := 2) (v := .ref (ad (ztg (10 + x1.toNatClampNeg) 2) 0)) hC h14 zs_1 lkX8_294 rfl dX8_back_52 ?_
      obtain ⟨h15, k⟩ := k
      obtain ⟨s16, h17, k⟩ := k
      refine Z_callV (As := [.ref (ad (ztg (10 + x1.toNatClampNeg) 2) 0)]) (rest := []) hC h17 cvX8_295 ⟨6, rfl, zs_6, _, rfl, rfl⟩ rfl rfl (Nat.le_of_ble_eq_true rfl) dX8_back_55 ?_
      refine Z_aload_n hC dX8_back_58 rfl rfl ?_
      refine Z_get (o := 0) (c := 8) (k := 0) (v := .ref (ad 1 0)) hC rfl zs_8 lkX8_10 rfl dX8_back_59 ?_
      refine Z_get (o := 1) (c := 0) (k := 10) (v := .int ((s16 1).1 10)) hC rfl zs_0 lkX8_132 rfl dX8_back_62 ?_
      exact Z_iret hC dX8_back_65 k.1 k.2
    · have k := k.2 c7
      refine Z_bipush (v := (-2)) hC dX8_back_23 rfl ?_
      exact Z_iret hC dX8_back_25 k.1 k.2
  · have k := k.2 c4
    refine Z_iconst (v := (-1)) hC dX8_back_9 rfl ?_
    exact Z_iret hC dX8_back_10 k.1 k.2
theorem eX8_back {x1 : Int32} {X : Option Value} {Y : ZS} {s : ZS} (k : (∃ (r2 : Int32) (s1 : ZS), Ev l ad D ia d mX8_outside [.int x1, .int 0, .int 1] s (some (.int r2)) s1 ∧ ((r2 = 0 → (vp_in x1 2 ∧ (zcls (10 + x1.toNatClampNeg) = 1 ∧ ((¬ ((s1 (10 + x1.toNatClampNeg)).1 0) = 0 → (vp_in x1 2 ∧ (zcls (10 + x1.toNatClampNeg) = 1 ∧ (zcls (ztg (10 + x1.toNatClampNeg) 1) = 0 ∧ (∃ s11 : ZS, Ev l ad D ia d mX0_copyFrom [.ref (ad 1 0), .ref (ad (ztg (10 + x1.toNatClampNeg) 1) 0)] s1 none s11 ∧ (vp_in x1 2 ∧ (zcls (10 + x1.toNatClampNeg) = 1 ∧ (zcls (ztg (10 + x1.toNatClampNeg) 2) = 6 ∧ (∃ s16 : ZS, Ev l ad D ia d mX6_copyFrom [.ref (ad 7 0), .ref (ad (ztg (10 + x1.toNatClampNeg) 2) 0)] s11 none s16 ∧ (X = some (.int ((s16 1).1 10)) ∧ Y = s16)))))))))) ∧ (((s1 (10 + x1.toNatClampNeg)).1 0) = 0 → (X = some (.int ((-2))) ∧ Y = s1)))))) ∧ (¬ r2 = 0 → (X = some (.int ((-1))) ∧ Y = s1))))) : Ev l ad D ia (d + 1) mX8_back [.ref (ad 0 0), .int x1] s X Y :=
  Ev.start (by decide +kernel) (Nat.le_of_ble_eq_true rfl) (fun C hC => bX8_back_0  hC k)
set_option maxRecDepth 100000 in
set_option maxHeartbeats 4000000 in
theorem bX8_sheet_0 {x1 : Int32} {x2 : Int32} {x3 : Int32} {C : ZC} {X : Option Value} {Y : ZS} {s : ZS} (hC : Zok ad D ia C (d + 1) cX8_sheet 4 RX8 (some .int)) (k : (∃ (r2 : Int32) (s1 : ZS), Ev l ad D ia d mX8_outside [.int x1, .int 0, .int 3] s (some (.int r2)) s1 ∧ ((¬ r2 = 0 → (X = some (.int ((-1))) ∧ Y = s1)) ∧ (r2 = 0 → (∃ (r6 : Int32) (s5 : ZS), Ev l ad D ia d mX8_outside [.int x2, .int 0, .int 2] s1 (some (.int r6)) s5 ∧ ((¬ r6 = 0 → (X = some (.int ((-1))) ∧ Y = s5)) ∧ (r6 = 0 → ((x3 ≤ 40 → ((0 ≤ x3 → (vp_in x1 4 ∧ (zcls (12 + x1.toNatClampNeg) = 5 ∧ (∃ s13 : ZS, Ev l ad D ia d mX5_renew [.ref (ad (12 + x1.toNatClampNeg) 0), .int x2, .int x3] s5 none s13 ∧ (X = some (.int 1) ∧ Y = s13))))) ∧ (¬ 0 ≤ x3 → (X = some (.int ((-14))) ∧ Y = s5)))) ∧ (¬ x3 ≤ 40 → (X = some (.int ((-1))) ∧ Y = s5)))))))))) : Z l ad D ia C X Y 0 [(0, .ref (ad 0 0)), (1, .int x1), (2, .int x2), (3, .int x3)] [] s := by
  refine Z_iload_n hC dX8_sheet_0 rfl rfl ?_
  refine Z_iconst (v := 0) hC dX8_sheet_1 rfl ?_
  refine Z_iconst (v := 3) hC dX8_sheet_2 rfl ?_
  obtain ⟨r2, s1, h3, k⟩ := k
  refine Z_callS (As := [.int x1, .int 0, .int 3]) (rest := []) hC h3 csX8_68 rfl rfl (Nat.le_of_ble_eq_true rfl) dX8_sheet_3 ?_
  refine Z_if_ne (tgt := 24) hC dX8_sheet_6 (by decide) (fun c4 => ?_) (fun c4 => ?_)
  · have k := k.1 c4
    refine Z_iconst (v := (-1)) hC dX8_sheet_24 rfl ?_
    exact Z_iret hC dX8_sheet_25 k.1 k.2
  · have k := k.2 c4
    refine Z_iload_n hC dX8_sheet_9 rfl rfl ?_
    refine Z_iconst (v := 0) hC dX8_sheet_10 rfl ?_
    refine Z_iconst (v := 2) hC dX8_sheet_11 rfl ?_
    obtain ⟨r6, s5, h7, k⟩ := k
    refine Z_callS (As := [.int x2, .int 0, .int 2]) (rest := []) hC h7 csX8_68 rfl rfl (Nat.le_of_ble_eq_true rfl) dX8_sheet_12 ?_
    refine Z_if_ne (tgt := 24) hC dX8_sheet_15 (by decide) (fun c8 => ?_) (fun c8 => ?_)
    · have k := k.1 c8
      refine Z_iconst (v := (-1)) hC dX8_sheet_24 rfl ?_
      exact Z_iret hC dX8_sheet_25 k.1 k.2
    · have k := k.2 c8
      refine Z_iload_n hC dX8_sheet_18 rfl rfl ?_
      refine Z_bipush (v := 40) hC dX8_sheet_19 rfl ?_
      refine Z_icmp_le (tgt := 26) hC dX8_sheet_21 (by decide) (fun c9 => ?_) (fun c9 => ?_)
      · have k := k.1 c9
        refine Z_iload_n hC dX8_sheet_26 rfl rfl ?_
        refine Z_if_ge (tgt := 33) hC dX8_sheet_27 (by decide) (fun c10 => ?_) (fun c10 => ?_)
        · have k := k.1 c10
          refine Z_aload_n hC dX8_sheet_33 rfl rfl ?_
          refine Z_get (o := 0) (c := 8) (k := 6) (v := .ref (ad 0 7)) hC rfl zs_8 lkX8_41 rfl dX8_sheet_34 ?_
          refine Z_iload_n hC dX8_sheet_37 rfl rfl ?_
          obtain ⟨h11, k⟩ := k
          refine Z_aaldS hC h11 dX8_sheet_38 ?_
          obtain ⟨h12, k⟩ := k
          refine Z_iload_n hC dX8_sheet_39 rfl rfl ?_
          refine Z_iload_n hC dX8_sheet_40 rfl rfl ?_
          obtain ⟨s13, h14, k⟩ := k
          refine Z_callV (As := [.int x2, .int x3]) (rest := []) hC h14 cvX8_298 ⟨5, h12, zs_5, _, rfl, rfl⟩ rfl rfl (Nat.le_of_ble_eq_true rfl) dX8_sheet_41 ?_
          refine Z_iconst (v := 1) hC dX8_sheet_44 rfl ?_
          exact Z_iret hC dX8_sheet_45 k.1 k.2
        · have k := k.2 c10
          refine Z_bipush (v := (-14)) hC dX8_sheet_30 rfl ?_
          exact Z_iret hC dX8_sheet_32 k.1 k.2
      · have k := k.2 c9
        refine Z_iconst (v := (-1)) hC dX8_sheet_24 rfl ?_
        exact Z_iret hC dX8_sheet_25 k.1 k.2
theorem eX8_sheet {x1 : Int32} {x2 : Int32} {x3 : Int32} {X : Option Value} {Y : ZS} {s : ZS} (k : (∃ (r2 : Int32) (s1 : ZS), Ev l ad D ia d mX8_outside [.int x1, .int 0, .int 3] s (some (.int r2)) s1 ∧ ((¬ r2 = 0 → (X = some (.int ((-1))) ∧ Y = s1)) ∧ (r2 = 0 → (∃ (r6 : Int32) (s5 : ZS), Ev l ad D ia d mX8_outside [.int x2, .int 0, .int 2] s1 (some (.int r6)) s5 ∧ ((¬ r6 = 0 → (X = some (.int ((-1))) ∧ Y = s5)) ∧ (r6 = 0 → ((x3 ≤ 40 → ((0 ≤ x3 → (vp_in x1 4 ∧ (zcls (12 + x1.toNatClampNeg) = 5 ∧ (∃ s13 : ZS, Ev l ad D ia d mX5_renew [.ref (ad (12 + x1.toNatClampNeg) 0), .int x2, .int x3] s5 none s13 ∧ (X = some (.int 1) ∧ Y = s13))))) ∧ (¬ 0 ≤ x3 → (X = some (.int ((-14))) ∧ Y = s5)))) ∧ (¬ x3 ≤ 40 → (X = some (.int ((-1))) ∧ Y = s5)))))))))) : Ev l ad D ia (d + 1) mX8_sheet [.ref (ad 0 0), .int x1, .int x2, .int x3] s X Y :=
  Ev.start (by decide +kernel) (Nat.le_of_ble_eq_true rfl) (fun C hC => bX8_sheet_0  hC k)
set_option maxRecDepth 100000 in
set_option maxHeartbeats 4000000 in
theorem bX8_lay_0 {x1 : Int32} {x2 : Int32} {x3 : Int32} {C : ZC} {X : Option Value} {Y : ZS} {s : ZS} (hC : Zok ad D ia C (d + 1) cX8_lay 6 RX8 (some .int)) (k : (∃ (r2 : Int32) (s1 : ZS), Ev l ad D ia d mX8_outside [.int x1, .int 0, .int 3] s (some (.int r2)) s1 ∧ ((r2 = 0 → (vp_in x1 4 ∧ (zcls (12 + x1.toNatClampNeg) = 5 ∧ (∃ (r8 : Int32) (s7 : ZS), Ev l ad D ia d mX5_faultAt [.ref (ad (12 + x1.toNatClampNeg) 0), .int ((s1 (12 + x1.toNatClampNeg)).1 0), .int x2] s1 (some (.int r8)) s7 ∧ ((r8 = 0 → (∃ s11 : ZS, Ev l ad D ia d mX5_put [.ref (ad (12 + x1.toNatClampNeg) 0), .int x2, .int x3] s7 none s11 ∧ (X = some (.int 1) ∧ Y = s11))) ∧ (¬ r8 = 0 → (X = some (.int (((-10)) - r8)) ∧ Y = s7))))))) ∧ (¬ r2 = 0 → (X = some (.int ((-1))) ∧ Y = s1))))) : Z l ad D ia C X Y 0 [(0, .ref (ad 0 0)), (1, .int x1), (2, .int x2), (3, .int x3)] [] s := by
  refine Z_iload_n hC dX8_lay_0 rfl rfl ?_
  refine Z_iconst (v := 0) hC dX8_lay_1 rfl ?_
  refine Z_iconst (v := 3) hC dX8_lay_2 rfl ?_
  obtain ⟨r2, s1, h3, k⟩ := k
  refine Z_callS (As := [.int x1, .int 0, .int 3]) (rest := []) hC h3 csX8_68 rfl rfl (Nat.le_of_ble_eq_true rfl) dX8_lay_3 ?_
  refine Z_if_eq (tgt := 11) hC dX8_lay_6 (by decide) (fun c4 => ?_) (fun c4 => ?_)
  · have k := k.1 c4
    refine Z_aload_n hC dX8_lay_11 rfl rfl ?_
    refine Z_get (o := 0) (c := 8) (k := 6) (v := .ref (ad 0 7)) hC rfl zs_8 lkX8_41 rfl dX8_lay_12 ?_
    refine Z_iload_n hC dX8_lay_15 rfl rfl ?_
    obtain ⟨h5, k⟩ := k
    refine Z_aaldS hC h5 dX8_lay_16 ?_
    obtain ⟨h6, k⟩ := k
    refine Z_astore (V2 := [(4, .ref (ad (12 + x1.toNatClampNeg) 0)), (0, .ref (ad 0 0)), (1, .int x1), (2, .int x2), (3, .int x3)]) hC dX8_lay_17 (by decide) rfl ?_
    refine Z_aload hC dX8_lay_19 rfl ?_
    refine Z_aload hC dX8_lay_21 rfl ?_
    refine Z_get (o := 12 + x1.toNatClampNeg) (c := 5) (k := 0) (v := .int ((s1 (12 + x1.toNatClampNeg)).1 0)) hC h6 zs_5 lkX8_301 rfl dX8_lay_23 ?_
    refine Z_iload_n hC dX8_lay_26 rfl rfl ?_
    obtain ⟨r8, s7, h9, k⟩ := k
    refine Z_callV (As := [.int ((s1 (12 + x1.toNatClampNeg)).1 0), .int x2]) (rest := []) hC h9 cvX8_304 ⟨5, h6, zs_5, _, rfl, rfl⟩ rfl rfl (Nat.le_of_ble_eq_true rfl) dX8_lay_27 ?_
    refine Z_istore (V2 := [(5, .int r8), (4, .ref (ad (12 + x1.toNatClampNeg) 0)), (0, .ref (ad 0 0)), (1, .int x1), (2, .int x2), (3, .int x3)]) hC dX8_lay_30 (by decide) rfl ?_
    refine Z_iload hC dX8_lay_32 rfl ?_
    refine Z_if_eq (tgt := 43) hC dX8_lay_34 (by decide) (fun c10 => ?_) (fun c10 => ?_)
    · have k := k.1 c10
      refine Z_aload hC dX8_lay_43 rfl ?_
      refine Z_iload_n hC dX8_lay_45 rfl rfl ?_
      refine Z_iload_n hC dX8_lay_46 rfl rfl ?_
      obtain ⟨s11, h12, k⟩ := k
      refine Z_callV (As := [.int x2, .int x3]) (rest := []) hC h12 cvX8_307 ⟨5, h6, zs_5, _, rfl, rfl⟩ rfl rfl (Nat.le_of_ble_eq_true rfl) dX8_lay_47 ?_
      refine Z_iconst (v := 1) hC dX8_lay_50 rfl ?_
      exact Z_iret hC dX8_lay_51 k.1 k.2
    · have k := k.2 c10
      refine Z_bipush (v := (-10)) hC dX8_lay_37 rfl ?_
      refine Z_iload hC dX8_lay_39 rfl ?_
      refine Z_isub hC dX8_lay_41 ?_
      exact Z_iret hC dX8_lay_42 k.1 k.2
  · have k := k.2 c4
    refine Z_iconst (v := (-1)) hC dX8_lay_9 rfl ?_
    exact Z_iret hC dX8_lay_10 k.1 k.2
theorem eX8_lay {x1 : Int32} {x2 : Int32} {x3 : Int32} {X : Option Value} {Y : ZS} {s : ZS} (k : (∃ (r2 : Int32) (s1 : ZS), Ev l ad D ia d mX8_outside [.int x1, .int 0, .int 3] s (some (.int r2)) s1 ∧ ((r2 = 0 → (vp_in x1 4 ∧ (zcls (12 + x1.toNatClampNeg) = 5 ∧ (∃ (r8 : Int32) (s7 : ZS), Ev l ad D ia d mX5_faultAt [.ref (ad (12 + x1.toNatClampNeg) 0), .int ((s1 (12 + x1.toNatClampNeg)).1 0), .int x2] s1 (some (.int r8)) s7 ∧ ((r8 = 0 → (∃ s11 : ZS, Ev l ad D ia d mX5_put [.ref (ad (12 + x1.toNatClampNeg) 0), .int x2, .int x3] s7 none s11 ∧ (X = some (.int 1) ∧ Y = s11))) ∧ (¬ r8 = 0 → (X = some (.int (((-10)) - r8)) ∧ Y = s7))))))) ∧ (¬ r2 = 0 → (X = some (.int ((-1))) ∧ Y = s1))))) : Ev l ad D ia (d + 1) mX8_lay [.ref (ad 0 0), .int x1, .int x2, .int x3] s X Y :=
  Ev.start (by decide +kernel) (Nat.le_of_ble_eq_true rfl) (fun C hC => bX8_lay_0  hC k)
set_option maxRecDepth 100000 in
set_option maxHeartbeats 4000000 in
theorem bX8_read_0 {x1 : Int32} {x2 : Int32} {x3 : Int32} {x4 : Int32} {C : ZC} {X : Option Value} {Y : ZS} {s : ZS} (hC : Zok ad D ia C (d + 1) cX8_read 12 RX8 (some .int)) (k : (∃ (r2 : Int32) (s1 : ZS), Ev l ad D ia d mX8_outside [.int x1, .int 0, .int 3] s (some (.int r2)) s1 ∧ ((¬ r2 = 0 → (X = some (.int ((-1))) ∧ Y = s1)) ∧ (r2 = 0 → (∃ (r6 : Int32) (s5 : ZS), Ev l ad D ia d mX8_outside [.int x2, .int 0, .int 2] s1 (some (.int r6)) s5 ∧ ((¬ r6 = 0 → (X = some (.int ((-1))) ∧ Y = s5)) ∧ (r6 = 0 → (∃ (r10 : Int32) (s9 : ZS), Ev l ad D ia d mX8_outside [.int x4, .int 0, .int 20] s5 (some (.int r10)) s9 ∧ ((r10 = 0 → (vp_in x1 4 ∧ (zcls (12 + x1.toNatClampNeg) = 5 ∧ (∃ s15 : ZS, Ev l ad D ia d mX8_beginTrial [.ref (ad 0 0)] s9 none s15 ∧ Z l ad D ia C X Y 52 [(0, .ref (ad 0 0)), (2, .int x2), (3, .int x3), (4, .int x4), (5, .ref (ad (12 + x1.toNatClampNeg) 0)), (6, .int 0), (7, .int 0), (8, .int 0)] [] s15)))) ∧ (¬ r10 = 0 → (X = some (.int ((-1))) ∧ Y = s9))))))))))) : Z l ad D ia C X Y 0 [(0, .ref (ad 0 0)), (1, .int x1), (2, .int x2), (3, .int x3), (4, .int x4)] [] s := by
  refine Z_iload_n hC dX8_read_0 rfl rfl ?_
  refine Z_iconst (v := 0) hC dX8_read_1 rfl ?_
  refine Z_iconst (v := 3) hC dX8_read_2 rfl ?_
  obtain ⟨r2, s1, h3, k⟩ := k
  refine Z_callS (As := [.int x1, .int 0, .int 3]) (rest := []) hC h3 csX8_68 rfl rfl (Nat.le_of_ble_eq_true rfl) dX8_read_3 ?_
  refine Z_if_ne (tgt := 29) hC dX8_read_6 (by decide) (fun c4 => ?_) (fun c4 => ?_)
  · have k := k.1 c4
    refine Z_iconst (v := (-1)) hC dX8_read_29 rfl ?_
    exact Z_iret hC dX8_read_30 k.1 k.2
  · have k := k.2 c4
    refine Z_iload_n hC dX8_read_9 rfl rfl ?_
    refine Z_iconst (v := 0) hC dX8_read_10 rfl ?_
    refine Z_iconst (v := 2) hC dX8_read_11 rfl ?_
    obtain ⟨r6, s5, h7, k⟩ := k
    refine Z_callS (As := [.int x2, .int 0, .int 2]) (rest := []) hC h7 csX8_68 rfl rfl (Nat.le_of_ble_eq_true rfl) dX8_read_12 ?_
    refine Z_if_ne (tgt := 29) hC dX8_read_15 (by decide) (fun c8 => ?_) (fun c8 => ?_)
    · have k := k.1 c8
      refine Z_iconst (v := (-1)) hC dX8_read_29 rfl ?_
      exact Z_iret hC dX8_read_30 k.1 k.2
    · have k := k.2 c8
      refine Z_iload hC dX8_read_18 rfl ?_
      refine Z_iconst (v := 0) hC dX8_read_20 rfl ?_
      refine Z_bipush (v := 20) hC dX8_read_21 rfl ?_
      obtain ⟨r10, s9, h11, k⟩ := k
      refine Z_callS (As := [.int x4, .int 0, .int 20]) (rest := []) hC h11 csX8_68 rfl rfl (Nat.le_of_ble_eq_true rfl) dX8_read_23 ?_
      refine Z_if_eq (tgt := 31) hC dX8_read_26 (by decide) (fun c12 => ?_) (fun c12 => ?_)
      · have k := k.1 c12
        refine Z_aload_n hC dX8_read_31 rfl rfl ?_
        refine Z_get (o := 0) (c := 8) (k := 6) (v := .ref (ad 0 7)) hC rfl zs_8 lkX8_41 rfl dX8_read_32 ?_
        refine Z_iload_n hC dX8_read_35 rfl rfl ?_
        obtain ⟨h13, k⟩ := k
        refine Z_aaldS hC h13 dX8_read_36 ?_
        obtain ⟨h14, k⟩ := k
        refine Z_astore (V2 := [(5, .ref (ad (12 + x1.toNatClampNeg) 0)), (0, .ref (ad 0 0)), (1, .int x1), (2, .int x2), (3, .int x3), (4, .int x4)]) hC dX8_read_37 (by decide) rfl ?_
        refine Z_aload_n hC dX8_read_39 rfl rfl ?_
        obtain ⟨s15, h16, k⟩ := k
        refine Z_callV (As := []) (rest := []) hC h16 cvX8_205 ⟨8, rfl, zs_8, _, rfl, rfl⟩ rfl rfl (Nat.le_of_ble_eq_true rfl) dX8_read_40 ?_
        refine Z_iconst (v := 0) hC dX8_read_43 rfl ?_
        refine Z_istore (V2 := [(6, .int 0), (5, .ref (ad (12 + x1.toNatClampNeg) 0)), (0, .ref (ad 0 0)), (1, .int x1), (2, .int x2), (3, .int x3), (4, .int x4)]) hC dX8_read_44 (by decide) rfl ?_
        refine Z_iconst (v := 0) hC dX8_read_46 rfl ?_
        refine Z_istore (V2 := [(7, .int 0), (6, .int 0), (5, .ref (ad (12 + x1.toNatClampNeg) 0)), (0, .ref (ad 0 0)), (1, .int x1), (2, .int x2), (3, .int x3), (4, .int x4)]) hC dX8_read_47 (by decide) rfl ?_
        refine Z_iconst (v := 0) hC dX8_read_49 rfl ?_
        refine Z_istore (V2 := [(8, .int 0), (7, .int 0), (6, .int 0), (5, .ref (ad (12 + x1.toNatClampNeg) 0)), (0, .ref (ad 0 0)), (1, .int x1), (2, .int x2), (3, .int x3), (4, .int x4)]) hC dX8_read_50 (by decide) rfl ?_
        exact Z_pick [4, 6, 7, 8, 3, 2, 1, 0] rfl k
      · have k := k.2 c12
        refine Z_iconst (v := (-1)) hC dX8_read_29 rfl ?_
        exact Z_iret hC dX8_read_30 k.1 k.2
theorem eX8_read {x1 : Int32} {x2 : Int32} {x3 : Int32} {x4 : Int32} {X : Option Value} {Y : ZS} {s : ZS} (k : ∀ C : ZC, Zok ad D ia C (d + 1) cX8_read 12 RX8 (some .int) → (∃ (r2 : Int32) (s1 : ZS), Ev l ad D ia d mX8_outside [.int x1, .int 0, .int 3] s (some (.int r2)) s1 ∧ ((¬ r2 = 0 → (X = some (.int ((-1))) ∧ Y = s1)) ∧ (r2 = 0 → (∃ (r6 : Int32) (s5 : ZS), Ev l ad D ia d mX8_outside [.int x2, .int 0, .int 2] s1 (some (.int r6)) s5 ∧ ((¬ r6 = 0 → (X = some (.int ((-1))) ∧ Y = s5)) ∧ (r6 = 0 → (∃ (r10 : Int32) (s9 : ZS), Ev l ad D ia d mX8_outside [.int x4, .int 0, .int 20] s5 (some (.int r10)) s9 ∧ ((r10 = 0 → (vp_in x1 4 ∧ (zcls (12 + x1.toNatClampNeg) = 5 ∧ (∃ s15 : ZS, Ev l ad D ia d mX8_beginTrial [.ref (ad 0 0)] s9 none s15 ∧ Z l ad D ia C X Y 52 [(0, .ref (ad 0 0)), (2, .int x2), (3, .int x3), (4, .int x4), (5, .ref (ad (12 + x1.toNatClampNeg) 0)), (6, .int 0), (7, .int 0), (8, .int 0)] [] s15)))) ∧ (¬ r10 = 0 → (X = some (.int ((-1))) ∧ Y = s9))))))))))) : Ev l ad D ia (d + 1) mX8_read [.ref (ad 0 0), .int x1, .int x2, .int x3, .int x4] s X Y :=
  Ev.start (by decide +kernel) (Nat.le_of_ble_eq_true rfl) (fun C hC => bX8_read_0  hC (k C hC))
set_option maxRecDepth 100000 in
set_option maxHeartbeats 4000000 in
theorem bX8_read_52 {x2 : Int32} {x3 : Int32} {x4 : Int32} {q5 : Nat} (hq5 : zcls q5 = 5) {x6 : Int32} {x7 : Int32} {x8 : Int32} {C : ZC} {X : Option Value} {Y : ZS} {s : ZS} (hC : Zok ad D ia C (d + 1) cX8_read 12 RX8 (some .int)) (k : ((x4 ≤ x8 → (∃ s2 : ZS, Ev l ad D ia d mX0_copyFrom [.ref (ad 1 0), .ref (ad 2 0)] s none s2 ∧ (∀ s4 : ZS, s4 = stI s2 0 7 x7 → (X = some (.int x6) ∧ Y = s4)))) ∧ (¬ x4 ≤ x8 → (∃ (r6 : Int32) (s5 : ZS), Ev l ad D ia d mX5_faultOfPair [.ref (ad q5 0), .int x2, .int (x3 + (2 * x8))] s (some (.int r6)) s5 ∧ ((r6 = 0 → (vp_in (x3 + (2 * x8)) 40 ∧ (vp_in ((x3 + (2 * x8)) + 1) 40 ∧ (∃ (r12 : Int32) (s11 : ZS), Ev l ad D ia d mX0_refusalOf [.ref (ad 2 0), .int ((s5 q5).2.2 2 (x3 + (2 * x8)).toNatClampNeg), .int ((s5 q5).2.2 2 ((x3 + (2 * x8)) + 1).toNatClampNeg)] s5 (some (.int r12)) s11 ∧ ((r12 = 0 → (∃ (r16 : Int32) (s15 : ZS), Ev l ad D ia d mX0_bring [.ref (ad 2 0), .int ((s5 q5).2.2 2 (x3 + (2 * x8)).toNatClampNeg), .int ((s5 q5).2.2 2 ((x3 + (2 * x8)) + 1).toNatClampNeg)] s11 (some (.int r16)) s15 ∧ Z l ad D ia C X Y 52 [(0, .ref (ad 0 0)), (2, .int x2), (3, .int x3), (4, .int x4), (5, .ref (ad q5 0)), (6, .int (x6 + 1)), (7, .int r6), (8, .int (x8 + 1))] [] s15)) ∧ (¬ r12 = 0 → (X = some (.int (((-20)) - x8)) ∧ Y = s11))))))) ∧ (¬ r6 = 0 → (∃ s18 : ZS, Ev l ad D ia d mX0_copyFrom [.ref (ad 1 0), .ref (ad 2 0)] s5 none s18 ∧ (∀ s20 : ZS, s20 = stI s18 0 7 r6 → (X = some (.int x6) ∧ Y = s20))))))))) : Z l ad D ia C X Y 52 [(0, .ref (ad 0 0)), (2, .int x2), (3, .int x3), (4, .int x4), (5, .ref (ad q5 0)), (6, .int x6), (7, .int x7), (8, .int x8)] [] s := by
  refine Z_iload hC dX8_read_52 rfl ?_
  refine Z_iload hC dX8_read_54 rfl ?_
  refine Z_icmp_ge (tgt := 148) hC dX8_read_56 (by decide) (fun c1 => ?_) (fun c1 => ?_)
  · have k := k.1 c1
    refine Z_aload_n hC dX8_read_148 rfl rfl ?_
    refine Z_get (o := 0) (c := 8) (k := 0) (v := .ref (ad 1 0)) hC rfl zs_8 lkX8_10 rfl dX8_read_149 ?_
    refine Z_aload_n hC dX8_read_152 rfl rfl ?_
    refine Z_get (o := 0) (c := 8) (k := 1) (v := .ref (ad 2 0)) hC rfl zs_8 lkX8_16 rfl dX8_read_153 ?_
    obtain ⟨s2, h3, k⟩ := k
    refine Z_callV (As := [.ref (ad 2 0)]) (rest := []) hC h3 cvX8_109 ⟨0, rfl, zs_0, _, rfl, rfl⟩ rfl rfl (Nat.le_of_ble_eq_true rfl) dX8_read_156 ?_
    refine Z_aload_n hC dX8_read_159 rfl rfl ?_
    refine Z_iload hC dX8_read_160 rfl ?_
    refine Z_putI (o := 0) (k := 7) hC rfl zs_8 pkX8_315 rfl rfl (hsX8_7 _ _ _) dX8_read_162 (fun s4 es4 => ?_)
    have k := k s4 es4
    refine Z_iload hC dX8_read_165 rfl ?_
    exact Z_iret hC dX8_read_167 k.1 k.2
  · have k := k.2 c1
    refine Z_iload_n hC dX8_read_59 rfl rfl ?_
    refine Z_iconst (v := 2) hC dX8_read_60 rfl ?_
    refine Z_iload hC dX8_read_61 rfl ?_
    refine Z_imul hC dX8_read_63 ?_
    refine Z_iadd hC dX8_read_64 ?_
    refine Z_istore (V2 := [(9, .int (x3 + (2 * x8))), (0, .ref (ad 0 0)), (2, .int x2), (3, .int x3), (4, .int x4), (5, .ref (ad q5 0)), (6, .int x6), (7, .int x7), (8, .int x8)]) hC dX8_read_65 (by decide) rfl ?_
    refine Z_aload hC dX8_read_67 rfl ?_
    refine Z_iload_n hC dX8_read_69 rfl rfl ?_
    refine Z_iload hC dX8_read_70 rfl ?_
    obtain ⟨r6, s5, h7, k⟩ := k
    refine Z_callV (As := [.int x2, .int (x3 + (2 * x8))]) (rest := []) hC h7 cvX8_309 ⟨5, hq5, zs_5, _, rfl, rfl⟩ rfl rfl (Nat.le_of_ble_eq_true rfl) dX8_read_72 ?_
    refine Z_istore (V2 := [(7, .int r6), (9, .int (x3 + (2 * x8))), (0, .ref (ad 0 0)), (2, .int x2), (3, .int x3), (4, .int x4), (5, .ref (ad q5 0)), (6, .int x6), (8, .int x8)]) hC dX8_read_75 (by decide) rfl ?_
    refine Z_iload hC dX8_read_77 rfl ?_
    refine Z_if_eq (tgt := 85) hC dX8_read_79 (by decide) (fun c8 => ?_) (fun c8 => ?_)
    · have k := k.1 c8
      refine Z_aload hC dX8_read_85 rfl ?_
      refine Z_get (o := q5) (c := 5) (k := 2) (v := .ref (ad q5 3)) hC hq5 zs_5 lkX8_312 rfl dX8_read_87 ?_
      refine Z_iload hC dX8_read_90 rfl ?_
      obtain ⟨h9, k⟩ := k
      refine Z_iald (o := q5) (k := 2) hC (zis_of hq5 rfl) h9 dX8_read_92 ?_
      refine Z_istore (V2 := [(10, .int ((s5 q5).2.2 2 (x3 + (2 * x8)).toNatClampNeg)), (7, .int r6), (9, .int (x3 + (2 * x8))), (0, .ref (ad 0 0)), (2, .int x2), (3, .int x3), (4, .int x4), (5, .ref (ad q5 0)), (6, .int x6), (8, .int x8)]) hC dX8_read_93 (by decide) rfl ?_
      refine Z_aload hC dX8_read_95 rfl ?_
      refine Z_get (o := q5) (c := 5) (k := 2) (v := .ref (ad q5 3)) hC hq5 zs_5 lkX8_312 rfl dX8_read_97 ?_
      refine Z_iload hC dX8_read_100 rfl ?_
      refine Z_iconst (v := 1) hC dX8_read_102 rfl ?_
      refine Z_iadd hC dX8_read_103 ?_
      obtain ⟨h10, k⟩ := k
      refine Z_iald (o := q5) (k := 2) hC (zis_of hq5 rfl) h10 dX8_read_104 ?_
      refine Z_istore (V2 := [(11, .int ((s5 q5).2.2 2 ((x3 + (2 * x8)) + 1).toNatClampNeg)), (10, .int ((s5 q5).2.2 2 (x3 + (2 * x8)).toNatClampNeg)), (7, .int r6), (9, .int (x3 + (2 * x8))), (0, .ref (ad 0 0)), (2, .int x2), (3, .int x3), (4, .int x4), (5, .ref (ad q5 0)), (6, .int x6), (8, .int x8)]) hC dX8_read_105 (by decide) rfl ?_
      refine Z_aload_n hC dX8_read_107 rfl rfl ?_
      refine Z_get (o := 0) (c := 8) (k := 1) (v := .ref (ad 2 0)) hC rfl zs_8 lkX8_16 rfl dX8_read_108 ?_
      refine Z_iload hC dX8_read_111 rfl ?_
      refine Z_iload hC dX8_read_113 rfl ?_
      obtain ⟨r12, s11, h13, k⟩ := k
      refine Z_callV (As := [.int ((s5 q5).2.2 2 (x3 + (2 * x8)).toNatClampNeg), .int ((s5 q5).2.2 2 ((x3 + (2 * x8)) + 1).toNatClampNeg)]) (rest := []) hC h13 cvX8_199 ⟨0, rfl, zs_0, _, rfl, rfl⟩ rfl rfl (Nat.le_of_ble_eq_true rfl) dX8_read_115 ?_
      refine Z_if_eq (tgt := 127) hC dX8_read_118 (by decide) (fun c14 => ?_) (fun c14 => ?_)
      · have k := k.1 c14
        refine Z_aload_n hC dX8_read_127 rfl rfl ?_
        refine Z_get (o := 0) (c := 8) (k := 1) (v := .ref (ad 2 0)) hC rfl zs_8 lkX8_16 rfl dX8_read_128 ?_
        refine Z_iload hC dX8_read_131 rfl ?_
        refine Z_iload hC dX8_read_133 rfl ?_
        obtain ⟨r16, s15, h17, k⟩ := k
        refine Z_callV (As := [.int ((s5 q5).2.2 2 (x3 + (2 * x8)).toNatClampNeg), .int ((s5 q5).2.2 2 ((x3 + (2 * x8)) + 1).toNatClampNeg)]) (rest := []) hC h17 cvX8_202 ⟨0, rfl, zs_0, _, rfl, rfl⟩ rfl rfl (Nat.le_of_ble_eq_true rfl) dX8_read_135 ?_
        refine Z_pop hC dX8_read_138 rfl ?_
        refine Z_iinc (v := x6 + 1) (V2 := [(6, .int (x6 + 1)), (11, .int ((s5 q5).2.2 2 ((x3 + (2 * x8)) + 1).toNatClampNeg)), (10, .int ((s5 q5).2.2 2 (x3 + (2 * x8)).toNatClampNeg)), (7, .int r6), (9, .int (x3 + (2 * x8))), (0, .ref (ad 0 0)), (2, .int x2), (3, .int x3), (4, .int x4), (5, .ref (ad q5 0)), (8, .int x8)]) hC dX8_read_139 rfl rfl (by decide) rfl ?_
        refine Z_iinc (v := x8 + 1) (V2 := [(8, .int (x8 + 1)), (6, .int (x6 + 1)), (11, .int ((s5 q5).2.2 2 ((x3 + (2 * x8)) + 1).toNatClampNeg)), (10, .int ((s5 q5).2.2 2 (x3 + (2 * x8)).toNatClampNeg)), (7, .int r6), (9, .int (x3 + (2 * x8))), (0, .ref (ad 0 0)), (2, .int x2), (3, .int x3), (4, .int x4), (5, .ref (ad q5 0))]) hC dX8_read_142 rfl rfl (by decide) rfl ?_
        refine Z_goto (tgt := 52) hC dX8_read_145 (by decide) ?_
        exact Z_pick [6, 7, 8, 9, 10, 1, 4, 0] rfl k
      · have k := k.2 c14
        refine Z_bipush (v := (-20)) hC dX8_read_121 rfl ?_
        refine Z_iload hC dX8_read_123 rfl ?_
        refine Z_isub hC dX8_read_125 ?_
        exact Z_iret hC dX8_read_126 k.1 k.2
    · have k := k.2 c8
      refine Z_goto (tgt := 148) hC dX8_read_82 (by decide) ?_
      refine Z_aload_n hC dX8_read_148 rfl rfl ?_
      refine Z_get (o := 0) (c := 8) (k := 0) (v := .ref (ad 1 0)) hC rfl zs_8 lkX8_10 rfl dX8_read_149 ?_
      refine Z_aload_n hC dX8_read_152 rfl rfl ?_
      refine Z_get (o := 0) (c := 8) (k := 1) (v := .ref (ad 2 0)) hC rfl zs_8 lkX8_16 rfl dX8_read_153 ?_
      obtain ⟨s18, h19, k⟩ := k
      refine Z_callV (As := [.ref (ad 2 0)]) (rest := []) hC h19 cvX8_109 ⟨0, rfl, zs_0, _, rfl, rfl⟩ rfl rfl (Nat.le_of_ble_eq_true rfl) dX8_read_156 ?_
      refine Z_aload_n hC dX8_read_159 rfl rfl ?_
      refine Z_iload hC dX8_read_160 rfl ?_
      refine Z_putI (o := 0) (k := 7) hC rfl zs_8 pkX8_315 rfl rfl (hsX8_7 _ _ _) dX8_read_162 (fun s20 es20 => ?_)
      have k := k s20 es20
      refine Z_iload hC dX8_read_165 rfl ?_
      exact Z_iret hC dX8_read_167 k.1 k.2
set_option maxRecDepth 100000 in
set_option maxHeartbeats 4000000 in
theorem bX8_torn_0 {C : ZC} {X : Option Value} {Y : ZS} {s : ZS} (hC : Zok ad D ia C d cX8_torn 1 RX8 (some .int)) (k : (X = some (.int ((s 0).1 7)) ∧ Y = s)) : Z l ad D ia C X Y 0 [(0, .ref (ad 0 0))] [] s := by
  refine Z_aload_n hC dX8_torn_0 rfl rfl ?_
  refine Z_get (o := 0) (c := 8) (k := 7) (v := .int ((s 0).1 7)) hC rfl zs_8 lkX8_315 rfl dX8_torn_1 ?_
  exact Z_iret hC dX8_torn_4 k.1 k.2
theorem eX8_torn {X : Option Value} {Y : ZS} {s : ZS} (k : (X = some (.int ((s 0).1 7)) ∧ Y = s)) : Ev l ad D ia d mX8_torn [.ref (ad 0 0)] s X Y :=
  Ev.start (by decide +kernel) (Nat.le_of_ble_eq_true rfl) (fun C hC => bX8_torn_0  hC k)
set_option maxRecDepth 100000 in
set_option maxHeartbeats 4000000 in
theorem bX8_count_0 {x1 : Int32} {C : ZC} {X : Option Value} {Y : ZS} {s : ZS} (hC : Zok ad D ia C (d + 1) cX8_count 2 RX8 (some .int)) (k : ((x1 = 0 → (X = some (.int ((s 7).1 0)) ∧ Y = s)) ∧ (x1 = 1 → (∃ (r4 : Int32) (s3 : ZS), Ev l ad D ia d mX8_imagesTaken [.ref (ad 0 0)] s (some (.int r4)) s3 ∧ (X = some (.int r4) ∧ Y = s3))) ∧ (x1 = 2 → (X = some (.int ((s 16).1 1)) ∧ Y = s)) ∧ (x1 = 3 → (vp_in 0 4 ∧ (zcls (12 + (0 : Int32).toNatClampNeg) = 5 ∧ ((¬ ((s (12 + (0 : Int32).toNatClampNeg)).1 0) = ((-4)) → (vp_in 0 4 ∧ (zcls (12 + (0 : Int32).toNatClampNeg) = 5 ∧ (X = some (.int ((s (12 + (0 : Int32).toNatClampNeg)).1 1)) ∧ Y = s)))) ∧ (((s (12 + (0 : Int32).toNatClampNeg)).1 0) = ((-4)) → (X = some (.int ((-4))) ∧ Y = s)))))) ∧ (x1 = 4 → (∃ (r15 : Int32) (s14 : ZS), Ev l ad D ia d mX8_sumOf [.ref (ad 1 3), .int ((s 1).1 0)] s (some (.int r15)) s14 ∧ (X = some (.int r15) ∧ Y = s14))) ∧ (x1 = 5 → (∃ (r19 : Int32) (s18 : ZS), Ev l ad D ia d mX8_sumOf [.ref (ad 1 8), .int ((s 1).1 4)] s (some (.int r19)) s18 ∧ (X = some (.int r19) ∧ Y = s18))) ∧ ((¬ x1 = 0 ∧ ¬ x1 = 1 ∧ ¬ x1 = 2 ∧ ¬ x1 = 3 ∧ ¬ x1 = 4 ∧ ¬ x1 = 5) → (X = some (.int ((-1))) ∧ Y = s)))) : Z l ad D ia C X Y 0 [(0, .ref (ad 0 0)), (1, .int x1)] [] s := by
  refine Z_iload_n hC dX8_count_0 rfl rfl ?_
  by_cases c1 : x1 = 0
  · have c1x : (x1).toInt = 0 := by rw [c1]; rfl
    have k := k.1 c1
    refine Z_tabIn (tgt := 40) hC dX8_count_1 (by omega) (by omega) (by rw [c1x]; rfl) (by decide) ?_
    refine Z_aload_n hC dX8_count_40 rfl rfl ?_
    refine Z_get (o := 0) (c := 8) (k := 4) (v := .ref (ad 7 0)) hC rfl zs_8 lkX8_29 rfl dX8_count_41 ?_
    refine Z_get (o := 7) (c := 6) (k := 0) (v := .int ((s 7).1 0)) hC rfl zs_6 lkX8_113 rfl dX8_count_44 ?_
    exact Z_iret hC dX8_count_47 k.1 k.2
  by_cases c2 : x1 = 1
  · have c2x : (x1).toInt = 1 := by rw [c2]; rfl
    have k := k.2.1 c2
    refine Z_tabIn (tgt := 48) hC dX8_count_1 (by omega) (by omega) (by rw [c2x]; rfl) (by decide) ?_
    refine Z_aload_n hC dX8_count_48 rfl rfl ?_
    obtain ⟨r4, s3, h5, k⟩ := k
    refine Z_callV (As := []) (rest := []) hC h5 cvX8_318 ⟨8, rfl, zs_8, _, rfl, rfl⟩ rfl rfl (Nat.le_of_ble_eq_true rfl) dX8_count_49 ?_
    exact Z_iret hC dX8_count_52 k.1 k.2
  by_cases c6 : x1 = 2
  · have c6x : (x1).toInt = 2 := by rw [c6]; rfl
    have k := k.2.2.1 c6
    refine Z_tabIn (tgt := 53) hC dX8_count_1 (by omega) (by omega) (by rw [c6x]; rfl) (by decide) ?_
    refine Z_aload_n hC dX8_count_53 rfl rfl ?_
    refine Z_get (o := 0) (c := 8) (k := 2) (v := .ref (ad 17 0)) hC rfl zs_8 lkX8_22 rfl dX8_count_54 ?_
    refine Z_get (o := 17) (c := 3) (k := 4) (v := .ref (ad 16 0)) hC rfl zs_3 lkX8_72 rfl dX8_count_57 ?_
    refine Z_get (o := 16) (c := 7) (k := 1) (v := .int ((s 16).1 1)) hC rfl zs_7 lkX8_76 rfl dX8_count_60 ?_
    exact Z_iret hC dX8_count_63 k.1 k.2
  by_cases c7 : x1 = 3
  · have c7x : (x1).toInt = 3 := by rw [c7]; rfl
    have k := k.2.2.2.1 c7
    refine Z_tabIn (tgt := 64) hC dX8_count_1 (by omega) (by omega) (by rw [c7x]; rfl) (by decide) ?_
    refine Z_aload_n hC dX8_count_64 rfl rfl ?_
    refine Z_get (o := 0) (c := 8) (k := 6) (v := .ref (ad 0 7)) hC rfl zs_8 lkX8_41 rfl dX8_count_65 ?_
    refine Z_iconst (v := 0) hC dX8_count_68 rfl ?_
    obtain ⟨h8, k⟩ := k
    refine Z_aaldS hC h8 dX8_count_69 ?_
    obtain ⟨h9, k⟩ := k
    refine Z_get (o := 12 + (0 : Int32).toNatClampNeg) (c := 5) (k := 0) (v := .int ((s (12 + (0 : Int32).toNatClampNeg)).1 0)) hC h9 zs_5 lkX8_301 rfl dX8_count_70 ?_
    refine Z_bipush (v := (-4)) hC dX8_count_73 rfl ?_
    refine Z_icmp_ne (tgt := 83) hC dX8_count_75 (by decide) (fun c10 => ?_) (fun c10 => ?_)
    · have k := k.1 c10
      refine Z_aload_n hC dX8_count_83 rfl rfl ?_
      refine Z_get (o := 0) (c := 8) (k := 6) (v := .ref (ad 0 7)) hC rfl zs_8 lkX8_41 rfl dX8_count_84 ?_
      refine Z_iconst (v := 0) hC dX8_count_87 rfl ?_
      obtain ⟨h11, k⟩ := k
      refine Z_aaldS hC h11 dX8_count_88 ?_
      obtain ⟨h12, k⟩ := k
      refine Z_get (o := 12 + (0 : Int32).toNatClampNeg) (c := 5) (k := 1) (v := .int ((s (12 + (0 : Int32).toNatClampNeg)).1 1)) hC h12 zs_5 lkX8_321 rfl dX8_count_89 ?_
      exact Z_iret hC dX8_count_92 k.1 k.2
    · have k := k.2 c10
      refine Z_bipush (v := (-4)) hC dX8_count_78 rfl ?_
      refine Z_goto (tgt := 92) hC dX8_count_80 (by decide) ?_
      exact Z_iret hC dX8_count_92 k.1 k.2
  by_cases c13 : x1 = 4
  · have c13x : (x1).toInt = 4 := by rw [c13]; rfl
    have k := k.2.2.2.2.1 c13
    refine Z_tabIn (tgt := 93) hC dX8_count_1 (by omega) (by omega) (by rw [c13x]; rfl) (by decide) ?_
    refine Z_aload_n hC dX8_count_93 rfl rfl ?_
    refine Z_get (o := 0) (c := 8) (k := 0) (v := .ref (ad 1 0)) hC rfl zs_8 lkX8_10 rfl dX8_count_94 ?_
    refine Z_get (o := 1) (c := 0) (k := 2) (v := .ref (ad 1 3)) hC rfl zs_0 lkX8_149 rfl dX8_count_97 ?_
    refine Z_aload_n hC dX8_count_100 rfl rfl ?_
    refine Z_get (o := 0) (c := 8) (k := 0) (v := .ref (ad 1 0)) hC rfl zs_8 lkX8_10 rfl dX8_count_101 ?_
    refine Z_get (o := 1) (c := 0) (k := 0) (v := .int ((s 1).1 0)) hC rfl zs_0 lkX8_123 rfl dX8_count_104 ?_
    obtain ⟨r15, s14, h16, k⟩ := k
    refine Z_callS (As := [.ref (ad 1 3), .int ((s 1).1 0)]) (rest := []) hC h16 csX8_322 rfl rfl (Nat.le_of_ble_eq_true rfl) dX8_count_107 ?_
    exact Z_iret hC dX8_count_110 k.1 k.2
  by_cases c17 : x1 = 5
  · have c17x : (x1).toInt = 5 := by rw [c17]; rfl
    have k := k.2.2.2.2.2.1 c17
    refine Z_tabIn (tgt := 111) hC dX8_count_1 (by omega) (by omega) (by rw [c17x]; rfl) (by decide) ?_
    refine Z_aload_n hC dX8_count_111 rfl rfl ?_
    refine Z_get (o := 0) (c := 8) (k := 0) (v := .ref (ad 1 0)) hC rfl zs_8 lkX8_10 rfl dX8_count_112 ?_
    refine Z_get (o := 1) (c := 0) (k := 7) (v := .ref (ad 1 8)) hC rfl zs_0 lkX8_168 rfl dX8_count_115 ?_
    refine Z_aload_n hC dX8_count_118 rfl rfl ?_
    refine Z_get (o := 0) (c := 8) (k := 0) (v := .ref (ad 1 0)) hC rfl zs_8 lkX8_10 rfl dX8_count_119 ?_
    refine Z_get (o := 1) (c := 0) (k := 4) (v := .int ((s 1).1 4)) hC rfl zs_0 lkX8_126 rfl dX8_count_122 ?_
    obtain ⟨r19, s18, h20, k⟩ := k
    refine Z_callS (As := [.ref (ad 1 8), .int ((s 1).1 4)]) (rest := []) hC h20 csX8_322 rfl rfl (Nat.le_of_ble_eq_true rfl) dX8_count_125 ?_
    exact Z_iret hC dX8_count_128 k.1 k.2
  have k := k.2.2.2.2.2.2 ⟨c1, c2, c6, c7, c13, c17⟩
  have z21 : (x1).toInt < 0 ∨ 5 < (x1).toInt := by
    apply tab_out
    intro z h1 h2
    rcases (show z = 0 ∨ z = 1 ∨ z = 2 ∨ z = 3 ∨ z = 4 ∨ z = 5 by omega) with rfl | rfl | rfl | rfl | rfl | rfl
    · exact fun e => c1 (Int32.toInt_inj.mp (show (x1).toInt = ((0 : Int32)).toInt from e))
    · exact fun e => c2 (Int32.toInt_inj.mp (show (x1).toInt = ((1 : Int32)).toInt from e))
    · exact fun e => c6 (Int32.toInt_inj.mp (show (x1).toInt = ((2 : Int32)).toInt from e))
    · exact fun e => c7 (Int32.toInt_inj.mp (show (x1).toInt = ((3 : Int32)).toInt from e))
    · exact fun e => c13 (Int32.toInt_inj.mp (show (x1).toInt = ((4 : Int32)).toInt from e))
    · exact fun e => c17 (Int32.toInt_inj.mp (show (x1).toInt = ((5 : Int32)).toInt from e))
  refine Z_tabOut (tgt := 129) hC dX8_count_1 z21 (by decide) ?_
  refine Z_iconst (v := (-1)) hC dX8_count_129 rfl ?_
  exact Z_iret hC dX8_count_130 k.1 k.2
theorem eX8_count {x1 : Int32} {X : Option Value} {Y : ZS} {s : ZS} (k : ((x1 = 0 → (X = some (.int ((s 7).1 0)) ∧ Y = s)) ∧ (x1 = 1 → (∃ (r4 : Int32) (s3 : ZS), Ev l ad D ia d mX8_imagesTaken [.ref (ad 0 0)] s (some (.int r4)) s3 ∧ (X = some (.int r4) ∧ Y = s3))) ∧ (x1 = 2 → (X = some (.int ((s 16).1 1)) ∧ Y = s)) ∧ (x1 = 3 → (vp_in 0 4 ∧ (zcls (12 + (0 : Int32).toNatClampNeg) = 5 ∧ ((¬ ((s (12 + (0 : Int32).toNatClampNeg)).1 0) = ((-4)) → (vp_in 0 4 ∧ (zcls (12 + (0 : Int32).toNatClampNeg) = 5 ∧ (X = some (.int ((s (12 + (0 : Int32).toNatClampNeg)).1 1)) ∧ Y = s)))) ∧ (((s (12 + (0 : Int32).toNatClampNeg)).1 0) = ((-4)) → (X = some (.int ((-4))) ∧ Y = s)))))) ∧ (x1 = 4 → (∃ (r15 : Int32) (s14 : ZS), Ev l ad D ia d mX8_sumOf [.ref (ad 1 3), .int ((s 1).1 0)] s (some (.int r15)) s14 ∧ (X = some (.int r15) ∧ Y = s14))) ∧ (x1 = 5 → (∃ (r19 : Int32) (s18 : ZS), Ev l ad D ia d mX8_sumOf [.ref (ad 1 8), .int ((s 1).1 4)] s (some (.int r19)) s18 ∧ (X = some (.int r19) ∧ Y = s18))) ∧ ((¬ x1 = 0 ∧ ¬ x1 = 1 ∧ ¬ x1 = 2 ∧ ¬ x1 = 3 ∧ ¬ x1 = 4 ∧ ¬ x1 = 5) → (X = some (.int ((-1))) ∧ Y = s)))) : Ev l ad D ia (d + 1) mX8_count [.ref (ad 0 0), .int x1] s X Y :=
  Ev.start (by decide +kernel) (Nat.le_of_ble_eq_true rfl) (fun C hC => bX8_count_0  hC k)
set_option maxRecDepth 100000 in
set_option maxHeartbeats 4000000 in
theorem bX8_outside_0 {x0 : Int32} {x1 : Int32} {x2 : Int32} {C : ZC} {X : Option Value} {Y : ZS} {s : ZS} (hC : Zok ad D ia C d cX8_outside 3 RX8 (some .boolean)) (k : ((x0 < x1 → (X = some (.int 1) ∧ Y = s)) ∧ (¬ x0 < x1 → ((x0 ≤ x2 → (X = some (.int 0) ∧ Y = s)) ∧ (¬ x0 ≤ x2 → (X = some (.int 1) ∧ Y = s)))))) : Z l ad D ia C X Y 0 [(0, .int x0), (1, .int x1), (2, .int x2)] [] s := by
  refine Z_iload_n hC dX8_outside_0 rfl rfl ?_
  refine Z_iload_n hC dX8_outside_1 rfl rfl ?_
  refine Z_icmp_lt (tgt := 10) hC dX8_outside_2 (by decide) (fun c1 => ?_) (fun c1 => ?_)
  · have k := k.1 c1
    refine Z_iconst (v := 1) hC dX8_outside_10 rfl ?_
    refine Z_goto (tgt := 15) hC dX8_outside_11 (by decide) ?_
    exact Z_zret hC dX8_outside_15 rfl k.1 k.2
  · have k := k.2 c1
    refine Z_iload_n hC dX8_outside_5 rfl rfl ?_
    refine Z_iload_n hC dX8_outside_6 rfl rfl ?_
    refine Z_icmp_le (tgt := 14) hC dX8_outside_7 (by decide) (fun c2 => ?_) (fun c2 => ?_)
    · have k := k.1 c2
      refine Z_iconst (v := 0) hC dX8_outside_14 rfl ?_
      exact Z_zret hC dX8_outside_15 rfl k.1 k.2
    · have k := k.2 c2
      refine Z_iconst (v := 1) hC dX8_outside_10 rfl ?_
      refine Z_goto (tgt := 15) hC dX8_outside_11 (by decide) ?_
      exact Z_zret hC dX8_outside_15 rfl k.1 k.2
theorem eX8_outside {x0 : Int32} {x1 : Int32} {x2 : Int32} {X : Option Value} {Y : ZS} {s : ZS} (k : ((x0 < x1 → (X = some (.int 1) ∧ Y = s)) ∧ (¬ x0 < x1 → ((x0 ≤ x2 → (X = some (.int 0) ∧ Y = s)) ∧ (¬ x0 ≤ x2 → (X = some (.int 1) ∧ Y = s)))))) : Ev l ad D ia d mX8_outside [.int x0, .int x1, .int x2] s X Y :=
  Ev.start (by decide +kernel) (Nat.le_of_ble_eq_true rfl) (fun C hC => bX8_outside_0  hC k)
set_option maxRecDepth 100000 in
set_option maxHeartbeats 4000000 in
theorem bX8_tellsBookOrNone_0 {x0 : Int32} {C : ZC} {X : Option Value} {Y : ZS} {s : ZS} (hC : Zok ad D ia C (d + 1) cX8_tellsBookOrNone 1 RX8 (some .boolean)) (k : ((x0 = 9 → (X = some (.int 1) ∧ Y = s)) ∧ (¬ x0 = 9 → (∃ (r3 : Int32) (s2 : ZS), Ev l ad D ia d mX8_outside [.int x0, .int 0, .int 7] s (some (.int r3)) s2 ∧ ((¬ r3 = 0 → (X = some (.int 0) ∧ Y = s2)) ∧ (r3 = 0 → (X = some (.int 1) ∧ Y = s2))))))) : Z l ad D ia C X Y 0 [(0, .int x0)] [] s := by
  refine Z_iload_n hC dX8_tellsBookOrNone_0 rfl rfl ?_
  refine Z_bipush (v := 9) hC dX8_tellsBookOrNone_1 rfl ?_
  refine Z_icmp_eq (tgt := 16) hC dX8_tellsBookOrNone_3 (by decide) (fun c1 => ?_) (fun c1 => ?_)
  · have k := k.1 c1
    refine Z_iconst (v := 1) hC dX8_tellsBookOrNone_16 rfl ?_
    refine Z_goto (tgt := 21) hC dX8_tellsBookOrNone_17 (by decide) ?_
    exact Z_zret hC dX8_tellsBookOrNone_21 rfl k.1 k.2
  · have k := k.2 c1
    refine Z_iload_n hC dX8_tellsBookOrNone_6 rfl rfl ?_
    refine Z_iconst (v := 0) hC dX8_tellsBookOrNone_7 rfl ?_
    refine Z_bipush (v := 7) hC dX8_tellsBookOrNone_8 rfl ?_
    obtain ⟨r3, s2, h4, k⟩ := k
    refine Z_callS (As := [.int x0, .int 0, .int 7]) (rest := []) hC h4 csX8_68 rfl rfl (Nat.le_of_ble_eq_true rfl) dX8_tellsBookOrNone_10 ?_
    refine Z_if_ne (tgt := 20) hC dX8_tellsBookOrNone_13 (by decide) (fun c5 => ?_) (fun c5 => ?_)
    · have k := k.1 c5
      refine Z_iconst (v := 0) hC dX8_tellsBookOrNone_20 rfl ?_
      exact Z_zret hC dX8_tellsBookOrNone_21 rfl k.1 k.2
    · have k := k.2 c5
      refine Z_iconst (v := 1) hC dX8_tellsBookOrNone_16 rfl ?_
      refine Z_goto (tgt := 21) hC dX8_tellsBookOrNone_17 (by decide) ?_
      exact Z_zret hC dX8_tellsBookOrNone_21 rfl k.1 k.2
theorem eX8_tellsBookOrNone {x0 : Int32} {X : Option Value} {Y : ZS} {s : ZS} (k : ((x0 = 9 → (X = some (.int 1) ∧ Y = s)) ∧ (¬ x0 = 9 → (∃ (r3 : Int32) (s2 : ZS), Ev l ad D ia d mX8_outside [.int x0, .int 0, .int 7] s (some (.int r3)) s2 ∧ ((¬ r3 = 0 → (X = some (.int 0) ∧ Y = s2)) ∧ (r3 = 0 → (X = some (.int 1) ∧ Y = s2))))))) : Ev l ad D ia (d + 1) mX8_tellsBookOrNone [.int x0] s X Y :=
  Ev.start (by decide +kernel) (Nat.le_of_ble_eq_true rfl) (fun C hC => bX8_tellsBookOrNone_0  hC k)
set_option maxRecDepth 100000 in
set_option maxHeartbeats 4000000 in
theorem bX8_bookSaid_0 {x0 : Int32} {C : ZC} {X : Option Value} {Y : ZS} {s : ZS} (hC : Zok ad D ia C d cX8_bookSaid 1 RX8 (some .int)) (k : ((¬ x0 = 9 → (X = some (.int x0) ∧ Y = s)) ∧ (x0 = 9 → (X = some (.int ((-4))) ∧ Y = s)))) : Z l ad D ia C X Y 0 [(0, .int x0)] [] s := by
  refine Z_iload_n hC dX8_bookSaid_0 rfl rfl ?_
  refine Z_bipush (v := 9) hC dX8_bookSaid_1 rfl ?_
  refine Z_icmp_ne (tgt := 11) hC dX8_bookSaid_3 (by decide) (fun c1 => ?_) (fun c1 => ?_)
  · have k := k.1 c1
    refine Z_iload_n hC dX8_bookSaid_11 rfl rfl ?_
    exact Z_iret hC dX8_bookSaid_12 k.1 k.2
  · have k := k.2 c1
    refine Z_bipush (v := (-4)) hC dX8_bookSaid_6 rfl ?_
    refine Z_goto (tgt := 12) hC dX8_bookSaid_8 (by decide) ?_
    exact Z_iret hC dX8_bookSaid_12 k.1 k.2
theorem eX8_bookSaid {x0 : Int32} {X : Option Value} {Y : ZS} {s : ZS} (k : ((¬ x0 = 9 → (X = some (.int x0) ∧ Y = s)) ∧ (x0 = 9 → (X = some (.int ((-4))) ∧ Y = s)))) : Ev l ad D ia d mX8_bookSaid [.int x0] s X Y :=
  Ev.start (by decide +kernel) (Nat.le_of_ble_eq_true rfl) (fun C hC => bX8_bookSaid_0  hC k)
set_option maxRecDepth 100000 in
set_option maxHeartbeats 4000000 in
theorem bX8_replace_0 {ro0 rk0 rn0 : Nat} (hr0 : zis ro0 rk0 0 rn0) {x1 : Int32} {x2 : Int32} {C : ZC} {X : Option Value} {Y : ZS} {s : ZS} (hC : Zok ad D ia C d cX8_replace 4 RX8 (some .int)) (k : (vp_in x1 rn0 ∧ (vp_in x1 rn0 ∧ (∀ s3 : ZS, s3 = stA s ro0 rk0 x1.toNatClampNeg x2 → (X = some (.int ((s ro0).2.2 rk0 x1.toNatClampNeg)) ∧ Y = s3))))) : Z l ad D ia C X Y 0 [(0, .ref (ad ro0 (rk0 + 1))), (1, .int x1), (2, .int x2)] [] s := by
  refine Z_aload_n hC dX8_replace_0 rfl rfl ?_
  refine Z_iload_n hC dX8_replace_1 rfl rfl ?_
  obtain ⟨h1, k⟩ := k
  refine Z_iald (o := ro0) (k := rk0) hC hr0 h1 dX8_replace_2 ?_
  refine Z_istore_n (V2 := [(3, .int ((s ro0).2.2 rk0 x1.toNatClampNeg)), (0, .ref (ad ro0 (rk0 + 1))), (1, .int x1), (2, .int x2)]) hC dX8_replace_3 rfl (by decide) rfl ?_
  refine Z_aload_n hC dX8_replace_4 rfl rfl ?_
  refine Z_iload_n hC dX8_replace_5 rfl rfl ?_
  refine Z_iload_n hC dX8_replace_6 rfl rfl ?_
  obtain ⟨h2, k⟩ := k
  refine Z_iast2 (o := ro0) (k := rk0) hC hr0 h2 dX8_replace_7 (fun s3 es3 => ?_)
  have k := k s3 es3
  refine Z_iload_n hC dX8_replace_8 rfl rfl ?_
  exact Z_iret hC dX8_replace_9 k.1 k.2
theorem eX8_replace {ro0 rk0 rn0 : Nat} (hr0 : zis ro0 rk0 0 rn0) {x1 : Int32} {x2 : Int32} {X : Option Value} {Y : ZS} {s : ZS} (k : (vp_in x1 rn0 ∧ (vp_in x1 rn0 ∧ (∀ s3 : ZS, s3 = stA s ro0 rk0 x1.toNatClampNeg x2 → (X = some (.int ((s ro0).2.2 rk0 x1.toNatClampNeg)) ∧ Y = s3))))) : Ev l ad D ia d mX8_replace [.ref (ad ro0 (rk0 + 1)), .int x1, .int x2] s X Y :=
  Ev.start (by decide +kernel) (Nat.le_of_ble_eq_true rfl) (fun C hC => bX8_replace_0 hr0 hC k)
set_option maxRecDepth 100000 in
set_option maxHeartbeats 4000000 in
theorem bX8_sumOf_0 {ro0 rk0 rn0 : Nat} (hr0 : zis ro0 rk0 0 rn0) {x1 : Int32} {C : ZC} {X : Option Value} {Y : ZS} {s : ZS} (hC : Zok ad D ia C d cX8_sumOf 4 RX8 (some .int)) (k : Z l ad D ia C X Y 4 [(0, .ref (ad ro0 (rk0 + 1))), (1, .int x1), (2, .int 0), (3, .int 0)] [] s) : Z l ad D ia C X Y 0 [(0, .ref (ad ro0 (rk0 + 1))), (1, .int x1)] [] s := by
  refine Z_iconst (v := 0) hC dX8_sumOf_0 rfl ?_
  refine Z_istore_n (V2 := [(2, .int 0), (0, .ref (ad ro0 (rk0 + 1))), (1, .int x1)]) hC dX8_sumOf_1 rfl (by decide) rfl ?_
  refine Z_iconst (v := 0) hC dX8_sumOf_2 rfl ?_
  refine Z_istore_n (V2 := [(3, .int 0), (2, .int 0), (0, .ref (ad ro0 (rk0 + 1))), (1, .int x1)]) hC dX8_sumOf_3 rfl (by decide) rfl ?_
  exact Z_pick [2, 3, 1, 0] rfl k
theorem eX8_sumOf {ro0 rk0 rn0 : Nat} (hr0 : zis ro0 rk0 0 rn0) {x1 : Int32} {X : Option Value} {Y : ZS} {s : ZS} (k : ∀ C : ZC, Zok ad D ia C d cX8_sumOf 4 RX8 (some .int) → Z l ad D ia C X Y 4 [(0, .ref (ad ro0 (rk0 + 1))), (1, .int x1), (2, .int 0), (3, .int 0)] [] s) : Ev l ad D ia d mX8_sumOf [.ref (ad ro0 (rk0 + 1)), .int x1] s X Y :=
  Ev.start (by decide +kernel) (Nat.le_of_ble_eq_true rfl) (fun C hC => bX8_sumOf_0 hr0 hC (k C hC))
set_option maxRecDepth 100000 in
set_option maxHeartbeats 4000000 in
theorem bX8_sumOf_4 {ro0 rk0 rn0 : Nat} (hr0 : zis ro0 rk0 0 rn0) {x1 : Int32} {x2 : Int32} {x3 : Int32} {C : ZC} {X : Option Value} {Y : ZS} {s : ZS} (hC : Zok ad D ia C d cX8_sumOf 4 RX8 (some .int)) (k : ((x1 ≤ x3 → (X = some (.int x2) ∧ Y = s)) ∧ (¬ x1 ≤ x3 → (vp_in x3 rn0 ∧ Z l ad D ia C X Y 4 [(0, .ref (ad ro0 (rk0 + 1))), (1, .int x1), (2, .int (x2 + ((s ro0).2.2 rk0 x3.toNatClampNeg))), (3, .int (x3 + 1))] [] s)))) : Z l ad D ia C X Y 4 [(0, .ref (ad ro0 (rk0 + 1))), (1, .int x1), (2, .int x2), (3, .int x3)] [] s := by
  refine Z_iload_n hC dX8_sumOf_4 rfl rfl ?_
  refine Z_iload_n hC dX8_sumOf_5 rfl rfl ?_
  refine Z_icmp_ge (tgt := 21) hC dX8_sumOf_6 (by decide) (fun c1 => ?_) (fun c1 => ?_)
  · have k := k.1 c1
    refine Z_iload_n hC dX8_sumOf_21 rfl rfl ?_
    exact Z_iret hC dX8_sumOf_22 k.1 k.2
  · have k := k.2 c1
    refine Z_iload_n hC dX8_sumOf_9 rfl rfl ?_
    refine Z_aload_n hC dX8_sumOf_10 rfl rfl ?_
    refine Z_iload_n hC dX8_sumOf_11 rfl rfl ?_
    obtain ⟨h2, k⟩ := k
    refine Z_iald (o := ro0) (k := rk0) hC hr0 h2 dX8_sumOf_12 ?_
    refine Z_iadd hC dX8_sumOf_13 ?_
    refine Z_istore_n (V2 := [(2, .int (x2 + ((s ro0).2.2 rk0 x3.toNatClampNeg))), (0, .ref (ad ro0 (rk0 + 1))), (1, .int x1), (3, .int x3)]) hC dX8_sumOf_14 rfl (by decide) rfl ?_
    refine Z_iinc (v := x3 + 1) (V2 := [(3, .int (x3 + 1)), (2, .int (x2 + ((s ro0).2.2 rk0 x3.toNatClampNeg))), (0, .ref (ad ro0 (rk0 + 1))), (1, .int x1)]) hC dX8_sumOf_15 rfl rfl (by decide) rfl ?_
    refine Z_goto (tgt := 4) hC dX8_sumOf_18 (by decide) ?_
    exact Z_pick [2, 3, 1, 0] rfl k
set_option maxRecDepth 100000 in
set_option maxHeartbeats 4000000 in
theorem bX8_partOfFraction_0 {y0 : Int64} {y2 : Int64} {x4 : Int32} {C : ZC} {X : Option Value} {Y : ZS} {s : ZS} (hC : Zok ad D ia C d cX8_partOfFraction 12 RX8 (some .long)) (k : Z l ad D ia C X Y 9 [(0, .long y0), (2, .long y2), (4, .int x4), (5, .long y2), (7, .long y0), (9, .int 0)] [] s) : Z l ad D ia C X Y 0 [(0, .long y0), (2, .long y2), (4, .int x4)] [] s := by
  refine Z_lload_n hC dX8_partOfFraction_0 rfl rfl ?_
  refine Z_lstore (V2 := [(5, .long y2), (0, .long y0), (2, .long y2), (4, .int x4)]) hC dX8_partOfFraction_1 (by decide) rfl ?_
  refine Z_lload_n hC dX8_partOfFraction_3 rfl rfl ?_
  refine Z_lstore (V2 := [(7, .long y0), (5, .long y2), (0, .long y0), (2, .long y2), (4, .int x4)]) hC dX8_partOfFraction_4 (by decide) rfl ?_
  refine Z_iconst (v := 0) hC dX8_partOfFraction_6 rfl ?_
  refine Z_istore (V2 := [(9, .int 0), (7, .long y0), (5, .long y2), (0, .long y0), (2, .long y2), (4, .int x4)]) hC dX8_partOfFraction_7 (by decide) rfl ?_
  exact Z_pick [3, 4, 5, 2, 1, 0] rfl k
theorem eX8_partOfFraction {y0 : Int64} {y2 : Int64} {x4 : Int32} {X : Option Value} {Y : ZS} {s : ZS} (k : ∀ C : ZC, Zok ad D ia C d cX8_partOfFraction 12 RX8 (some .long) → Z l ad D ia C X Y 9 [(0, .long y0), (2, .long y2), (4, .int x4), (5, .long y2), (7, .long y0), (9, .int 0)] [] s) : Ev l ad D ia d mX8_partOfFraction [.long y0, .long y2, .int x4] s X Y :=
  Ev.start (by decide +kernel) (Nat.le_of_ble_eq_true rfl) (fun C hC => bX8_partOfFraction_0  hC (k C hC))
set_option maxRecDepth 100000 in
set_option maxHeartbeats 4000000 in
theorem bX8_partOfFraction_9 {y0 : Int64} {y2 : Int64} {x4 : Int32} {y5 : Int64} {y7 : Int64} {x9 : Int32} {C : ZC} {X : Option Value} {Y : ZS} {s : ZS} (hC : Zok ad D ia C d cX8_partOfFraction 12 RX8 (some .long)) (k : ((100 ≤ x9 → ((¬ (lg_cmp y5 0) = 0 → ((¬ x4 = 0 → (¬ y5 = 0 ∧ (X = some (.long (y2 / y5)) ∧ Y = s))) ∧ (x4 = 0 → (¬ y5 = 0 ∧ (X = some (.long (y0 / y5)) ∧ Y = s))))) ∧ ((lg_cmp y5 0) = 0 → (X = some (.long ((-1))) ∧ Y = s)))) ∧ (¬ 100 ≤ x9 → (((lg_cmp y7 0) = 0 → ((¬ (lg_cmp y5 0) = 0 → ((¬ x4 = 0 → (¬ y5 = 0 ∧ (X = some (.long (y2 / y5)) ∧ Y = s))) ∧ (x4 = 0 → (¬ y5 = 0 ∧ (X = some (.long (y0 / y5)) ∧ Y = s))))) ∧ ((lg_cmp y5 0) = 0 → (X = some (.long ((-1))) ∧ Y = s)))) ∧ (¬ (lg_cmp y7 0) = 0 → (¬ y7 = 0 ∧ Z l ad D ia C X Y 9 [(0, .long y0), (2, .long y2), (4, .int x4), (5, .long y7), (7, .long (rm64 y5 y7)), (9, .int (x9 + 1))] [] s)))))) : Z l ad D ia C X Y 9 [(0, .long y0), (2, .long y2), (4, .int x4), (5, .long y5), (7, .long y7), (9, .int x9)] [] s := by
  refine Z_iload hC dX8_partOfFraction_9 rfl ?_
  refine Z_bipush (v := 100) hC dX8_partOfFraction_11 rfl ?_
  refine Z_icmp_ge (tgt := 44) hC dX8_partOfFraction_13 (by decide) (fun c1 => ?_) (fun c1 => ?_)
  · have k := k.1 c1
    refine Z_lload hC dX8_partOfFraction_44 rfl ?_
    refine Z_lconst (v := 0) hC dX8_partOfFraction_46 rfl ?_
    refine Z_lcmp hC dX8_partOfFraction_47 ?_
    refine Z_if_ne (tgt := 55) hC dX8_partOfFraction_48 (by decide) (fun c2 => ?_) (fun c2 => ?_)
    · have k := k.1 c2
      refine Z_iload hC dX8_partOfFraction_55 rfl ?_
      refine Z_if_ne (tgt := 64) hC dX8_partOfFraction_57 (by decide) (fun c3 => ?_) (fun c3 => ?_)
      · have k := k.1 c3
        refine Z_lload_n hC dX8_partOfFraction_64 rfl rfl ?_
        refine Z_lload hC dX8_partOfFraction_65 rfl ?_
        obtain ⟨h4, k⟩ := k
        refine Z_ldiv hC dX8_partOfFraction_67 h4 ?_
        exact Z_lret hC dX8_partOfFraction_68 k.1 k.2
      · have k := k.2 c3
        refine Z_lload_n hC dX8_partOfFraction_60 rfl rfl ?_
        refine Z_goto (tgt := 65) hC dX8_partOfFraction_61 (by decide) ?_
        refine Z_lload hC dX8_partOfFraction_65 rfl ?_
        obtain ⟨h5, k⟩ := k
        refine Z_ldiv hC dX8_partOfFraction_67 h5 ?_
        exact Z_lret hC dX8_partOfFraction_68 k.1 k.2
    · have k := k.2 c2
      refine Z_ldc2 hC clX8_248 dX8_partOfFraction_51 ?_
      exact Z_lret hC dX8_partOfFraction_54 k.1 k.2
  · have k := k.2 c1
    refine Z_lload hC dX8_partOfFraction_16 rfl ?_
    refine Z_lconst (v := 0) hC dX8_partOfFraction_18 rfl ?_
    refine Z_lcmp hC dX8_partOfFraction_19 ?_
    refine Z_if_eq (tgt := 44) hC dX8_partOfFraction_20 (by decide) (fun c6 => ?_) (fun c6 => ?_)
    · have k := k.1 c6
      refine Z_lload hC dX8_partOfFraction_44 rfl ?_
      refine Z_lconst (v := 0) hC dX8_partOfFraction_46 rfl ?_
      refine Z_lcmp hC dX8_partOfFraction_47 ?_
      refine Z_if_ne (tgt := 55) hC dX8_partOfFraction_48 (by decide) (fun c7 => ?_) (fun c7 => ?_)
      · have k := k.1 c7
        refine Z_iload hC dX8_partOfFraction_55 rfl ?_
        refine Z_if_ne (tgt := 64) hC dX8_partOfFraction_57 (by decide) (fun c8 => ?_) (fun c8 => ?_)
        · have k := k.1 c8
          refine Z_lload_n hC dX8_partOfFraction_64 rfl rfl ?_
          refine Z_lload hC dX8_partOfFraction_65 rfl ?_
          obtain ⟨h9, k⟩ := k
          refine Z_ldiv hC dX8_partOfFraction_67 h9 ?_
          exact Z_lret hC dX8_partOfFraction_68 k.1 k.2
        · have k := k.2 c8
          refine Z_lload_n hC dX8_partOfFraction_60 rfl rfl ?_
          refine Z_goto (tgt := 65) hC dX8_partOfFraction_61 (by decide) ?_
          refine Z_lload hC dX8_partOfFraction_65 rfl ?_
          obtain ⟨h10, k⟩ := k
          refine Z_ldiv hC dX8_partOfFraction_67 h10 ?_
          exact Z_lret hC dX8_partOfFraction_68 k.1 k.2
      · have k := k.2 c7
        refine Z_ldc2 hC clX8_248 dX8_partOfFraction_51 ?_
        exact Z_lret hC dX8_partOfFraction_54 k.1 k.2
    · have k := k.2 c6
      refine Z_lload hC dX8_partOfFraction_23 rfl ?_
      refine Z_lload hC dX8_partOfFraction_25 rfl ?_
      obtain ⟨h11, k⟩ := k
      refine Z_lrem2 hC dX8_partOfFraction_27 h11 ?_
      refine Z_lstore (V2 := [(10, .long (rm64 y5 y7)), (0, .long y0), (2, .long y2), (4, .int x4), (5, .long y5), (7, .long y7), (9, .int x9)]) hC dX8_partOfFraction_28 (by decide) rfl ?_
      refine Z_lload hC dX8_partOfFraction_30 rfl ?_
      refine Z_lstore (V2 := [(5, .long y7), (10, .long (rm64 y5 y7)), (0, .long y0), (2, .long y2), (4, .int x4), (7, .long y7), (9, .int x9)]) hC dX8_partOfFraction_32 (by decide) rfl ?_
      refine Z_lload hC dX8_partOfFraction_34 rfl ?_
      refine Z_lstore (V2 := [(7, .long (rm64 y5 y7)), (5, .long y7), (10, .long (rm64 y5 y7)), (0, .long y0), (2, .long y2), (4, .int x4), (9, .int x9)]) hC dX8_partOfFraction_36 (by decide) rfl ?_
      refine Z_iinc (v := x9 + 1) (V2 := [(9, .int (x9 + 1)), (7, .long (rm64 y5 y7)), (5, .long y7), (10, .long (rm64 y5 y7)), (0, .long y0), (2, .long y2), (4, .int x4)]) hC dX8_partOfFraction_38 rfl rfl (by decide) rfl ?_
      refine Z_goto (tgt := 9) hC dX8_partOfFraction_41 (by decide) ?_
      exact Z_pick [4, 5, 6, 2, 1, 0] rfl k
set_option maxRecDepth 100000 in
set_option maxHeartbeats 4000000 in
theorem bX8_beginTrial_0 {C : ZC} {X : Option Value} {Y : ZS} {s : ZS} (hC : Zok ad D ia C (d + 1) cX8_beginTrial 1 RX8 none) (k : (∃ s1 : ZS, Ev l ad D ia d mX0_copyFrom [.ref (ad 2 0), .ref (ad 1 0)] s none s1 ∧ (X = none ∧ Y = s1))) : Z l ad D ia C X Y 0 [(0, .ref (ad 0 0))] [] s := by
  refine Z_aload_n hC dX8_beginTrial_0 rfl rfl ?_
  refine Z_get (o := 0) (c := 8) (k := 1) (v := .ref (ad 2 0)) hC rfl zs_8 lkX8_16 rfl dX8_beginTrial_1 ?_
  refine Z_aload_n hC dX8_beginTrial_4 rfl rfl ?_
  refine Z_get (o := 0) (c := 8) (k := 0) (v := .ref (ad 1 0)) hC rfl zs_8 lkX8_10 rfl dX8_beginTrial_5 ?_
  obtain ⟨s1, h2, k⟩ := k
  refine Z_callV (As := [.ref (ad 1 0)]) (rest := []) hC h2 cvX8_109 ⟨0, rfl, zs_0, _, rfl, rfl⟩ rfl rfl (Nat.le_of_ble_eq_true rfl) dX8_beginTrial_8 ?_
  exact Z_vret hC dX8_beginTrial_11 k.1 k.2
theorem eX8_beginTrial {X : Option Value} {Y : ZS} {s : ZS} (k : (∃ s1 : ZS, Ev l ad D ia d mX0_copyFrom [.ref (ad 2 0), .ref (ad 1 0)] s none s1 ∧ (X = none ∧ Y = s1))) : Ev l ad D ia (d + 1) mX8_beginTrial [.ref (ad 0 0)] s X Y :=
  Ev.start (by decide +kernel) (Nat.le_of_ble_eq_true rfl) (fun C hC => bX8_beginTrial_0  hC k)
set_option maxRecDepth 100000 in
set_option maxHeartbeats 4000000 in
theorem bX8_trialMinutes_0 {C : ZC} {X : Option Value} {Y : ZS} {s : ZS} (hC : Zok ad D ia C d cX8_trialMinutes 1 RX8 (some .int)) (k : (X = some (.int (((s 2).1 10) - ((s 1).1 10))) ∧ Y = s)) : Z l ad D ia C X Y 0 [(0, .ref (ad 0 0))] [] s := by
  refine Z_aload_n hC dX8_trialMinutes_0 rfl rfl ?_
  refine Z_get (o := 0) (c := 8) (k := 1) (v := .ref (ad 2 0)) hC rfl zs_8 lkX8_16 rfl dX8_trialMinutes_1 ?_
  refine Z_get (o := 2) (c := 0) (k := 10) (v := .int ((s 2).1 10)) hC rfl zs_0 lkX8_132 rfl dX8_trialMinutes_4 ?_
  refine Z_aload_n hC dX8_trialMinutes_7 rfl rfl ?_
  refine Z_get (o := 0) (c := 8) (k := 0) (v := .ref (ad 1 0)) hC rfl zs_8 lkX8_10 rfl dX8_trialMinutes_8 ?_
  refine Z_get (o := 1) (c := 0) (k := 10) (v := .int ((s 1).1 10)) hC rfl zs_0 lkX8_132 rfl dX8_trialMinutes_11 ?_
  refine Z_isub hC dX8_trialMinutes_14 ?_
  exact Z_iret hC dX8_trialMinutes_15 k.1 k.2
theorem eX8_trialMinutes {X : Option Value} {Y : ZS} {s : ZS} (k : (X = some (.int (((s 2).1 10) - ((s 1).1 10))) ∧ Y = s)) : Ev l ad D ia d mX8_trialMinutes [.ref (ad 0 0)] s X Y :=
  Ev.start (by decide +kernel) (Nat.le_of_ble_eq_true rfl) (fun C hC => bX8_trialMinutes_0  hC k)
set_option maxRecDepth 100000 in
set_option maxHeartbeats 4000000 in
theorem bX8_daysTillAllDone_0 {x1 : Int32} {C : ZC} {X : Option Value} {Y : ZS} {s : ZS} (hC : Zok ad D ia C (d + 1) cX8_daysTillAllDone 4 RX8 (some .int)) (k : Z l ad D ia C X Y 14 [(0, .ref (ad 0 0)), (1, .int x1), (2, .int ((1 <<< (((s 2).1 4) &&& 31)) - 1)), (3, .int 0)] [] s) : Z l ad D ia C X Y 0 [(0, .ref (ad 0 0)), (1, .int x1)] [] s := by
  refine Z_iconst (v := 1) hC dX8_daysTillAllDone_0 rfl ?_
  refine Z_aload_n hC dX8_daysTillAllDone_1 rfl rfl ?_
  refine Z_get (o := 0) (c := 8) (k := 1) (v := .ref (ad 2 0)) hC rfl zs_8 lkX8_16 rfl dX8_daysTillAllDone_2 ?_
  refine Z_get (o := 2) (c := 0) (k := 4) (v := .int ((s 2).1 4)) hC rfl zs_0 lkX8_126 rfl dX8_daysTillAllDone_5 ?_
  refine Z_ishl hC dX8_daysTillAllDone_8 ?_
  refine Z_iconst (v := 1) hC dX8_daysTillAllDone_9 rfl ?_
  refine Z_isub hC dX8_daysTillAllDone_10 ?_
  refine Z_istore_n (V2 := [(2, .int ((1 <<< (((s 2).1 4) &&& 31)) - 1)), (0, .ref (ad 0 0)), (1, .int x1)]) hC dX8_daysTillAllDone_11 rfl (by decide) rfl ?_
  refine Z_iconst (v := 0) hC dX8_daysTillAllDone_12 rfl ?_
  refine Z_istore_n (V2 := [(3, .int 0), (2, .int ((1 <<< (((s 2).1 4) &&& 31)) - 1)), (0, .ref (ad 0 0)), (1, .int x1)]) hC dX8_daysTillAllDone_13 rfl (by decide) rfl ?_
  exact Z_pick [2, 3, 1, 0] rfl k
theorem eX8_daysTillAllDone {x1 : Int32} {X : Option Value} {Y : ZS} {s : ZS} (k : ∀ C : ZC, Zok ad D ia C (d + 1) cX8_daysTillAllDone 4 RX8 (some .int) → Z l ad D ia C X Y 14 [(0, .ref (ad 0 0)), (1, .int x1), (2, .int ((1 <<< (((s 2).1 4) &&& 31)) - 1)), (3, .int 0)] [] s) : Ev l ad D ia (d + 1) mX8_daysTillAllDone [.ref (ad 0 0), .int x1] s X Y :=
  Ev.start (by decide +kernel) (Nat.le_of_ble_eq_true rfl) (fun C hC => bX8_daysTillAllDone_0  hC (k C hC))
set_option maxRecDepth 100000 in
set_option maxHeartbeats 4000000 in
theorem bX8_daysTillAllDone_14 {x1 : Int32} {x2 : Int32} {x3 : Int32} {C : ZC} {X : Option Value} {Y : ZS} {s : ZS} (hC : Zok ad D ia C (d + 1) cX8_daysTillAllDone 4 RX8 (some .int)) (k : ((x1 < x3 → (X = some (.int ((-4))) ∧ Y = s)) ∧ (¬ x1 < x3 → (∃ (r3 : Int32) (s2 : ZS), Ev l ad D ia d mX0_whoAreDone [.ref (ad 2 0)] s (some (.int r3)) s2 ∧ ((¬ r3 = x2 → (∃ s6 : ZS, Ev l ad D ia d mX0_passDay [.ref (ad 2 0)] s2 none s6 ∧ Z l ad D ia C X Y 14 [(0, .ref (ad 0 0)), (1, .int x1), (2, .int x2), (3, .int (x3 + 1))] [] s6)) ∧ (r3 = x2 → (X = some (.int x3) ∧ Y = s2))))))) : Z l ad D ia C X Y 14 [(0, .ref (ad 0 0)), (1, .int x1), (2, .int x2), (3, .int x3)] [] s := by
  refine Z_iload_n hC dX8_daysTillAllDone_14 rfl rfl ?_
  refine Z_iload_n hC dX8_daysTillAllDone_15 rfl rfl ?_
  refine Z_icmp_gt (tgt := 45) hC dX8_daysTillAllDone_16 (by decide) (fun c1 => ?_) (fun c1 => ?_)
  · have k := k.1 c1
    refine Z_bipush (v := (-4)) hC dX8_daysTillAllDone_45 rfl ?_
    exact Z_iret hC dX8_daysTillAllDone_47 k.1 k.2
  · have k := k.2 c1
    refine Z_aload_n hC dX8_daysTillAllDone_19 rfl rfl ?_
    refine Z_get (o := 0) (c := 8) (k := 1) (v := .ref (ad 2 0)) hC rfl zs_8 lkX8_16 rfl dX8_daysTillAllDone_20 ?_
    obtain ⟨r3, s2, h4, k⟩ := k
    refine Z_callV (As := []) (rest := []) hC h4 cvX8_138 ⟨0, rfl, zs_0, _, rfl, rfl⟩ rfl rfl (Nat.le_of_ble_eq_true rfl) dX8_daysTillAllDone_23 ?_
    refine Z_iload_n hC dX8_daysTillAllDone_26 rfl rfl ?_
    refine Z_icmp_ne (tgt := 32) hC dX8_daysTillAllDone_27 (by decide) (fun c5 => ?_) (fun c5 => ?_)
    · have k := k.1 c5
      refine Z_aload_n hC dX8_daysTillAllDone_32 rfl rfl ?_
      refine Z_get (o := 0) (c := 8) (k := 1) (v := .ref (ad 2 0)) hC rfl zs_8 lkX8_16 rfl dX8_daysTillAllDone_33 ?_
      obtain ⟨s6, h7, k⟩ := k
      refine Z_callV (As := []) (rest := []) hC h7 cvX8_290 ⟨0, rfl, zs_0, _, rfl, rfl⟩ rfl rfl (Nat.le_of_ble_eq_true rfl) dX8_daysTillAllDone_36 ?_
      refine Z_iinc (v := x3 + 1) (V2 := [(3, .int (x3 + 1)), (0, .ref (ad 0 0)), (1, .int x1), (2, .int x2)]) hC dX8_daysTillAllDone_39 rfl rfl (by decide) rfl ?_
      refine Z_goto (tgt := 14) hC dX8_daysTillAllDone_42 (by decide) ?_
      exact Z_pick [1, 2, 3, 0] rfl k
    · have k := k.2 c5
      refine Z_iload_n hC dX8_daysTillAllDone_30 rfl rfl ?_
      exact Z_iret hC dX8_daysTillAllDone_31 k.1 k.2
set_option maxRecDepth 100000 in
set_option maxHeartbeats 4000000 in
theorem bX8_findOrder_0 {C : ZC} {X : Option Value} {Y : ZS} {s : ZS} (hC : Zok ad D ia C (d + 1) cX8_findOrder 6 RX8 (some .int)) (k : Z l ad D ia C X Y 10 [(0, .ref (ad 0 0)), (1, .int ((s 1).1 4)), (2, .int 0)] [] s) : Z l ad D ia C X Y 0 [(0, .ref (ad 0 0))] [] s := by
  refine Z_aload_n hC dX8_findOrder_0 rfl rfl ?_
  refine Z_get (o := 0) (c := 8) (k := 0) (v := .ref (ad 1 0)) hC rfl zs_8 lkX8_10 rfl dX8_findOrder_1 ?_
  refine Z_get (o := 1) (c := 0) (k := 4) (v := .int ((s 1).1 4)) hC rfl zs_0 lkX8_126 rfl dX8_findOrder_4 ?_
  refine Z_istore_n (V2 := [(1, .int ((s 1).1 4)), (0, .ref (ad 0 0))]) hC dX8_findOrder_7 rfl (by decide) rfl ?_
  refine Z_iconst (v := 0) hC dX8_findOrder_8 rfl ?_
  refine Z_istore_n (V2 := [(2, .int 0), (1, .int ((s 1).1 4)), (0, .ref (ad 0 0))]) hC dX8_findOrder_9 rfl (by decide) rfl ?_
  exact Z_pick [2, 1, 0] rfl k
theorem eX8_findOrder {X : Option Value} {Y : ZS} {s : ZS} (k : ∀ C : ZC, Zok ad D ia C (d + 1) cX8_findOrder 6 RX8 (some .int) → Z l ad D ia C X Y 10 [(0, .ref (ad 0 0)), (1, .int ((s 1).1 4)), (2, .int 0)] [] s) : Ev l ad D ia (d + 1) mX8_findOrder [.ref (ad 0 0)] s X Y :=
  Ev.start (by decide +kernel) (Nat.le_of_ble_eq_true rfl) (fun C hC => bX8_findOrder_0  hC (k C hC))
set_option maxRecDepth 100000 in
set_option maxHeartbeats 4000000 in
theorem bX8_findOrder_10 {x1 : Int32} {x2 : Int32} {C : ZC} {X : Option Value} {Y : ZS} {s : ZS} (hC : Zok ad D ia C (d + 1) cX8_findOrder 6 RX8 (some .int)) (k : ((x1 ≤ x2 → Z l ad D ia C X Y 36 [(0, .ref (ad 0 0)), (1, .int x1), (2, .int ((1000000))), (3, .int 1), (4, .int 0)] [] s) ∧ (¬ x1 ≤ x2 → (vp_in x2 4 ∧ (∀ s3 : ZS, s3 = stA s 0 8 x2.toNatClampNeg x2 → Z l ad D ia C X Y 10 [(0, .ref (ad 0 0)), (1, .int x1), (2, .int (x2 + 1))] [] s3))))) : Z l ad D ia C X Y 10 [(0, .ref (ad 0 0)), (1, .int x1), (2, .int x2)] [] s := by
  refine Z_iload_n hC dX8_findOrder_10 rfl rfl ?_
  refine Z_iload_n hC dX8_findOrder_11 rfl rfl ?_
  refine Z_icmp_ge (tgt := 28) hC dX8_findOrder_12 (by decide) (fun c1 => ?_) (fun c1 => ?_)
  · have k := k.1 c1
    refine Z_ldc hC cnX8_237 dX8_findOrder_28 ?_
    refine Z_istore_n (V2 := [(2, .int ((1000000))), (0, .ref (ad 0 0)), (1, .int x1)]) hC dX8_findOrder_30 rfl (by decide) rfl ?_
    refine Z_iconst (v := 1) hC dX8_findOrder_31 rfl ?_
    refine Z_istore_n (V2 := [(3, .int 1), (2, .int ((1000000))), (0, .ref (ad 0 0)), (1, .int x1)]) hC dX8_findOrder_32 rfl (by decide) rfl ?_
    refine Z_iconst (v := 0) hC dX8_findOrder_33 rfl ?_
    refine Z_istore (V2 := [(4, .int 0), (3, .int 1), (2, .int ((1000000))), (0, .ref (ad 0 0)), (1, .int x1)]) hC dX8_findOrder_34 (by decide) rfl ?_
    exact Z_pick [3, 4, 2, 1, 0] rfl k
  · have k := k.2 c1
    refine Z_aload_n hC dX8_findOrder_15 rfl rfl ?_
    refine Z_get (o := 0) (c := 8) (k := 8) (v := .ref (ad 0 9)) hC rfl zs_8 lkX8_45 rfl dX8_findOrder_16 ?_
    refine Z_iload_n hC dX8_findOrder_19 rfl rfl ?_
    refine Z_iload_n hC dX8_findOrder_20 rfl rfl ?_
    obtain ⟨h2, k⟩ := k
    refine Z_iast2 (o := 0) (k := 8) hC (zis_of rfl rfl) h2 dX8_findOrder_21 (fun s3 es3 => ?_)
    have k := k s3 es3
    refine Z_iinc (v := x2 + 1) (V2 := [(2, .int (x2 + 1)), (0, .ref (ad 0 0)), (1, .int x1)]) hC dX8_findOrder_22 rfl rfl (by decide) rfl ?_
    refine Z_goto (tgt := 10) hC dX8_findOrder_25 (by decide) ?_
    exact Z_pick [1, 2, 0] rfl k
set_option maxRecDepth 100000 in
set_option maxHeartbeats 4000000 in
theorem bX8_findOrder_36 {x1 : Int32} {x2 : Int32} {x3 : Int32} {x4 : Int32} {C : ZC} {X : Option Value} {Y : ZS} {s : ZS} (hC : Zok ad D ia C (d + 1) cX8_findOrder 6 RX8 (some .int)) (k : ((24 ≤ x4 → (X = some (.int x2) ∧ Y = s)) ∧ (¬ 24 ≤ x4 → ((x3 = 0 → (X = some (.int x2) ∧ Y = s)) ∧ (¬ x3 = 0 → (∃ s3 : ZS, Ev l ad D ia d mX8_beginTrial [.ref (ad 0 0)] s none s3 ∧ Z l ad D ia C X Y 54 [(0, .ref (ad 0 0)), (1, .int x1), (2, .int x2), (4, .int x4), (5, .int 0)] [] s3)))))) : Z l ad D ia C X Y 36 [(0, .ref (ad 0 0)), (1, .int x1), (2, .int x2), (3, .int x3), (4, .int x4)] [] s := by
  refine Z_iload hC dX8_findOrder_36 rfl ?_
  refine Z_bipush (v := 24) hC dX8_findOrder_38 rfl ?_
  refine Z_icmp_ge (tgt := 123) hC dX8_findOrder_40 (by decide) (fun c1 => ?_) (fun c1 => ?_)
  · have k := k.1 c1
    refine Z_iload_n hC dX8_findOrder_123 rfl rfl ?_
    exact Z_iret hC dX8_findOrder_124 k.1 k.2
  · have k := k.2 c1
    refine Z_iload_n hC dX8_findOrder_43 rfl rfl ?_
    refine Z_if_eq (tgt := 123) hC dX8_findOrder_44 (by decide) (fun c2 => ?_) (fun c2 => ?_)
    · have k := k.1 c2
      refine Z_iload_n hC dX8_findOrder_123 rfl rfl ?_
      exact Z_iret hC dX8_findOrder_124 k.1 k.2
    · have k := k.2 c2
      refine Z_aload_n hC dX8_findOrder_47 rfl rfl ?_
      obtain ⟨s3, h4, k⟩ := k
      refine Z_callV (As := []) (rest := []) hC h4 cvX8_205 ⟨8, rfl, zs_8, _, rfl, rfl⟩ rfl rfl (Nat.le_of_ble_eq_true rfl) dX8_findOrder_48 ?_
      refine Z_iconst (v := 0) hC dX8_findOrder_51 rfl ?_
      refine Z_istore (V2 := [(5, .int 0), (0, .ref (ad 0 0)), (1, .int x1), (2, .int x2), (3, .int x3), (4, .int x4)]) hC dX8_findOrder_52 (by decide) rfl ?_
      exact Z_pick [1, 2, 3, 5, 0] rfl k
set_option maxRecDepth 100000 in
set_option maxHeartbeats 4000000 in
theorem bX8_findOrder_54 {x1 : Int32} {x2 : Int32} {x4 : Int32} {x5 : Int32} {C : ZC} {X : Option Value} {Y : ZS} {s : ZS} (hC : Zok ad D ia C (d + 1) cX8_findOrder 6 RX8 (some .int)) (k : ((x1 ≤ x5 → (∃ (r3 : Int32) (s2 : ZS), Ev l ad D ia d mX8_trialMinutes [.ref (ad 0 0)] s (some (.int r3)) s2 ∧ ((x2 ≤ r3 → (∃ (r7 : Int32) (s6 : ZS), Ev l ad D ia d mX8_turnToNextOrder [.ref (ad 0 9), .int x1] s2 (some (.int r7)) s6 ∧ Z l ad D ia C X Y 36 [(0, .ref (ad 0 0)), (1, .int x1), (2, .int x2), (3, .int r7), (4, .int (x4 + 1))] [] s6)) ∧ (¬ x2 ≤ r3 → (∃ (r10 : Int32) (s9 : ZS), Ev l ad D ia d mX8_trialMinutes [.ref (ad 0 0)] s2 (some (.int r10)) s9 ∧ ((¬ x1 < 0 ∧ x1.toNatClampNeg ≤ 4 ∧ x1.toNatClampNeg ≤ 4) ∧ (∀ s12 : ZS, s12 = stR s9 0 9 (va_cpy ((s9 0).2.2 8) ((s9 0).2.2 9) (0 : Int32).toNatClampNeg (0 : Int32).toNatClampNeg x1.toNatClampNeg) → (∃ (r15 : Int32) (s14 : ZS), Ev l ad D ia d mX8_turnToNextOrder [.ref (ad 0 9), .int x1] s12 (some (.int r15)) s14 ∧ Z l ad D ia C X Y 36 [(0, .ref (ad 0 0)), (1, .int x1), (2, .int r10), (3, .int r15), (4, .int (x4 + 1))] [] s14)))))))) ∧ (¬ x1 ≤ x5 → (vp_in x5 4 ∧ (∃ (r19 : Int32) (s18 : ZS), Ev l ad D ia d mX0_spendDay [.ref (ad 2 0), .int ((s 0).2.2 8 x5.toNatClampNeg)] s (some (.int r19)) s18 ∧ Z l ad D ia C X Y 54 [(0, .ref (ad 0 0)), (1, .int x1), (2, .int x2), (4, .int x4), (5, .int (x5 + 1))] [] s18))))) : Z l ad D ia C X Y 54 [(0, .ref (ad 0 0)), (1, .int x1), (2, .int x2), (4, .int x4), (5, .int x5)] [] s := by
  refine Z_iload hC dX8_findOrder_54 rfl ?_
  refine Z_iload_n hC dX8_findOrder_56 rfl rfl ?_
  refine Z_icmp_ge (tgt := 81) hC dX8_findOrder_57 (by decide) (fun c1 => ?_) (fun c1 => ?_)
  · have k := k.1 c1
    refine Z_aload_n hC dX8_findOrder_81 rfl rfl ?_
    obtain ⟨r3, s2, h4, k⟩ := k
    refine Z_callV (As := []) (rest := []) hC h4 cvX8_218 ⟨8, rfl, zs_8, _, rfl, rfl⟩ rfl rfl (Nat.le_of_ble_eq_true rfl) dX8_findOrder_82 ?_
    refine Z_iload_n hC dX8_findOrder_85 rfl rfl ?_
    refine Z_icmp_ge (tgt := 108) hC dX8_findOrder_86 (by decide) (fun c5 => ?_) (fun c5 => ?_)
    · have k := k.1 c5
      refine Z_aload_n hC dX8_findOrder_108 rfl rfl ?_
      refine Z_get (o := 0) (c := 8) (k := 8) (v := .ref (ad 0 9)) hC rfl zs_8 lkX8_45 rfl dX8_findOrder_109 ?_
      refine Z_iload_n hC dX8_findOrder_112 rfl rfl ?_
      obtain ⟨r7, s6, h8, k⟩ := k
      refine Z_callS (As := [.ref (ad 0 9), .int x1]) (rest := []) hC h8 csX8_332 rfl rfl (Nat.le_of_ble_eq_true rfl) dX8_findOrder_113 ?_
      refine Z_istore_n (V2 := [(3, .int r7), (0, .ref (ad 0 0)), (1, .int x1), (2, .int x2), (4, .int x4), (5, .int x5)]) hC dX8_findOrder_116 rfl (by decide) rfl ?_
      refine Z_iinc (v := x4 + 1) (V2 := [(4, .int (x4 + 1)), (3, .int r7), (0, .ref (ad 0 0)), (1, .int x1), (2, .int x2), (5, .int x5)]) hC dX8_findOrder_117 rfl rfl (by decide) rfl ?_
      refine Z_goto (tgt := 36) hC dX8_findOrder_120 (by decide) ?_
      exact Z_pick [2, 3, 4, 1, 0] rfl k
    · have k := k.2 c5
      refine Z_aload_n hC dX8_findOrder_89 rfl rfl ?_
      obtain ⟨r10, s9, h11, k⟩ := k
      refine Z_callV (As := []) (rest := []) hC h11 cvX8_218 ⟨8, rfl, zs_8, _, rfl, rfl⟩ rfl rfl (Nat.le_of_ble_eq_true rfl) dX8_findOrder_90 ?_
      refine Z_istore_n (V2 := [(2, .int r10), (0, .ref (ad 0 0)), (1, .int x1), (4, .int x4), (5, .int x5)]) hC dX8_findOrder_93 rfl (by decide) rfl ?_
      refine Z_aload_n hC dX8_findOrder_94 rfl rfl ?_
      refine Z_get (o := 0) (c := 8) (k := 8) (v := .ref (ad 0 9)) hC rfl zs_8 lkX8_45 rfl dX8_findOrder_95 ?_
      refine Z_iconst (v := 0) hC dX8_findOrder_98 rfl ?_
      refine Z_aload_n hC dX8_findOrder_99 rfl rfl ?_
      refine Z_get (o := 0) (c := 8) (k := 9) (v := .ref (ad 0 10)) hC rfl zs_8 lkX8_49 rfl dX8_findOrder_100 ?_
      refine Z_iconst (v := 0) hC dX8_findOrder_103 rfl ?_
      refine Z_iload_n hC dX8_findOrder_104 rfl rfl ?_
      obtain ⟨h13, k⟩ := k
      refine Z_copy (o0 := 0) (k0 := 8) (n0 := 4) (o1 := 0) (k1 := 9) (n1 := 4) hC mlX8_326 an_cp as_cp ai_cp (zis_of rfl rfl) (zis_of rfl rfl) (by decide) (by decide) h13.1 (by simpa using h13.2.1) (by simpa using h13.2.2) (Nat.le_of_ble_eq_true rfl) dX8_findOrder_105 (fun s12 es12 => ?_)
      have k := k s12 es12
      refine Z_aload_n hC dX8_findOrder_108 rfl rfl ?_
      refine Z_get (o := 0) (c := 8) (k := 8) (v := .ref (ad 0 9)) hC rfl zs_8 lkX8_45 rfl dX8_findOrder_109 ?_
      refine Z_iload_n hC dX8_findOrder_112 rfl rfl ?_
      obtain ⟨r15, s14, h16, k⟩ := k
      refine Z_callS (As := [.ref (ad 0 9), .int x1]) (rest := []) hC h16 csX8_332 rfl rfl (Nat.le_of_ble_eq_true rfl) dX8_findOrder_113 ?_
      refine Z_istore_n (V2 := [(3, .int r15), (2, .int r10), (0, .ref (ad 0 0)), (1, .int x1), (4, .int x4), (5, .int x5)]) hC dX8_findOrder_116 rfl (by decide) rfl ?_
      refine Z_iinc (v := x4 + 1) (V2 := [(4, .int (x4 + 1)), (3, .int r15), (2, .int r10), (0, .ref (ad 0 0)), (1, .int x1), (5, .int x5)]) hC dX8_findOrder_117 rfl rfl (by decide) rfl ?_
      refine Z_goto (tgt := 36) hC dX8_findOrder_120 (by decide) ?_
      exact Z_pick [3, 4, 2, 1, 0] rfl k
  · have k := k.2 c1
    refine Z_aload_n hC dX8_findOrder_60 rfl rfl ?_
    refine Z_get (o := 0) (c := 8) (k := 1) (v := .ref (ad 2 0)) hC rfl zs_8 lkX8_16 rfl dX8_findOrder_61 ?_
    refine Z_aload_n hC dX8_findOrder_64 rfl rfl ?_
    refine Z_get (o := 0) (c := 8) (k := 8) (v := .ref (ad 0 9)) hC rfl zs_8 lkX8_45 rfl dX8_findOrder_65 ?_
    refine Z_iload hC dX8_findOrder_68 rfl ?_
    obtain ⟨h17, k⟩ := k
    refine Z_iald (o := 0) (k := 8) hC (zis_of rfl rfl) h17 dX8_findOrder_70 ?_
    obtain ⟨r19, s18, h20, k⟩ := k
    refine Z_callV (As := [.int ((s 0).2.2 8 x5.toNatClampNeg)]) (rest := []) hC h20 cvX8_231 ⟨0, rfl, zs_0, _, rfl, rfl⟩ rfl rfl (Nat.le_of_ble_eq_true rfl) dX8_findOrder_71 ?_
    refine Z_pop hC dX8_findOrder_74 rfl ?_
    refine Z_iinc (v := x5 + 1) (V2 := [(5, .int (x5 + 1)), (0, .ref (ad 0 0)), (1, .int x1), (2, .int x2), (4, .int x4)]) hC dX8_findOrder_75 rfl rfl (by decide) rfl ?_
    refine Z_goto (tgt := 54) hC dX8_findOrder_78 (by decide) ?_
    exact Z_pick [1, 2, 3, 4, 0] rfl k
set_option maxRecDepth 100000 in
set_option maxHeartbeats 4000000 in
theorem bX8_turnToNextOrder_0 {ro0 rk0 rn0 : Nat} (hr0 : zis ro0 rk0 0 rn0) {x1 : Int32} {C : ZC} {X : Option Value} {Y : ZS} {s : ZS} (hC : Zok ad D ia C (d + 1) cX8_turnToNextOrder 6 RX8 (some .boolean)) (k : Z l ad D ia C X Y 4 [(0, .ref (ad ro0 (rk0 + 1))), (1, .int x1), (2, .int (x1 - 2))] [] s) : Z l ad D ia C X Y 0 [(0, .ref (ad ro0 (rk0 + 1))), (1, .int x1)] [] s := by
  refine Z_iload_n hC dX8_turnToNextOrder_0 rfl rfl ?_
  refine Z_iconst (v := 2) hC dX8_turnToNextOrder_1 rfl ?_
  refine Z_isub hC dX8_turnToNextOrder_2 ?_
  refine Z_istore_n (V2 := [(2, .int (x1 - 2)), (0, .ref (ad ro0 (rk0 + 1))), (1, .int x1)]) hC dX8_turnToNextOrder_3 rfl (by decide) rfl ?_
  exact Z_pick [1, 2, 0] rfl k
theorem eX8_turnToNextOrder {ro0 rk0 rn0 : Nat} (hr0 : zis ro0 rk0 0 rn0) {x1 : Int32} {X : Option Value} {Y : ZS} {s : ZS} (k : ∀ C : ZC, Zok ad D ia C (d + 1) cX8_turnToNextOrder 6 RX8 (some .boolean) → Z l ad D ia C X Y 4 [(0, .ref (ad ro0 (rk0 + 1))), (1, .int x1), (2, .int (x1 - 2))] [] s) : Ev l ad D ia (d + 1) mX8_turnToNextOrder [.ref (ad ro0 (rk0 + 1)), .int x1] s X Y :=
  Ev.start (by decide +kernel) (Nat.le_of_ble_eq_true rfl) (fun C hC => bX8_turnToNextOrder_0 hr0 hC (k C hC))
set_option maxRecDepth 100000 in
set_option maxHeartbeats 4000000 in
theorem bX8_turnToNextOrder_4 {ro0 rk0 rn0 : Nat} (hr0 : zis ro0 rk0 0 rn0) {x1 : Int32} {x2 : Int32} {C : ZC} {X : Option Value} {Y : ZS} {s : ZS} (hC : Zok ad D ia C (d + 1) cX8_turnToNextOrder 6 RX8 (some .boolean)) (k : ((x2 < 0 → ((0 ≤ x2 → Z l ad D ia C X Y 35 [(0, .ref (ad ro0 (rk0 + 1))), (1, .int x1), (2, .int x2), (3, .int (x1 - 1))] [] s) ∧ (¬ 0 ≤ x2 → (X = some (.int 0) ∧ Y = s)))) ∧ (¬ x2 < 0 → (vp_in x2 rn0 ∧ (vp_in (x2 + 1) rn0 ∧ ((((s ro0).2.2 rk0 x2.toNatClampNeg) ≤ ((s ro0).2.2 rk0 (x2 + 1).toNatClampNeg) → ((0 ≤ x2 → Z l ad D ia C X Y 35 [(0, .ref (ad ro0 (rk0 + 1))), (1, .int x1), (2, .int x2), (3, .int (x1 - 1))] [] s) ∧ (¬ 0 ≤ x2 → (X = some (.int 0) ∧ Y = s)))) ∧ (¬ ((s ro0).2.2 rk0 x2.toNatClampNeg) ≤ ((s ro0).2.2 rk0 (x2 + 1).toNatClampNeg) → Z l ad D ia C X Y 4 [(0, .ref (ad ro0 (rk0 + 1))), (1, .int x1), (2, .int (x2 + (-1)))] [] s))))))) : Z l ad D ia C X Y 4 [(0, .ref (ad ro0 (rk0 + 1))), (1, .int x1), (2, .int x2)] [] s := by
  refine Z_iload_n hC dX8_turnToNextOrder_4 rfl rfl ?_
  refine Z_if_lt (tgt := 25) hC dX8_turnToNextOrder_5 (by decide) (fun c1 => ?_) (fun c1 => ?_)
  · have k := k.1 c1
    refine Z_iload_n hC dX8_turnToNextOrder_25 rfl rfl ?_
    refine Z_if_ge (tgt := 31) hC dX8_turnToNextOrder_26 (by decide) (fun c2 => ?_) (fun c2 => ?_)
    · have k := k.1 c2
      refine Z_iload_n hC dX8_turnToNextOrder_31 rfl rfl ?_
      refine Z_iconst (v := 1) hC dX8_turnToNextOrder_32 rfl ?_
      refine Z_isub hC dX8_turnToNextOrder_33 ?_
      refine Z_istore_n (V2 := [(3, .int (x1 - 1)), (0, .ref (ad ro0 (rk0 + 1))), (1, .int x1), (2, .int x2)]) hC dX8_turnToNextOrder_34 rfl (by decide) rfl ?_
      exact Z_pick [1, 2, 3, 0] rfl k
    · have k := k.2 c2
      refine Z_iconst (v := 0) hC dX8_turnToNextOrder_29 rfl ?_
      exact Z_zret hC dX8_turnToNextOrder_30 rfl k.1 k.2
  · have k := k.2 c1
    refine Z_aload_n hC dX8_turnToNextOrder_8 rfl rfl ?_
    refine Z_iload_n hC dX8_turnToNextOrder_9 rfl rfl ?_
    obtain ⟨h3, k⟩ := k
    refine Z_iald (o := ro0) (k := rk0) hC hr0 h3 dX8_turnToNextOrder_10 ?_
    refine Z_aload_n hC dX8_turnToNextOrder_11 rfl rfl ?_
    refine Z_iload_n hC dX8_turnToNextOrder_12 rfl rfl ?_
    refine Z_iconst (v := 1) hC dX8_turnToNextOrder_13 rfl ?_
    refine Z_iadd hC dX8_turnToNextOrder_14 ?_
    obtain ⟨h4, k⟩ := k
    refine Z_iald (o := ro0) (k := rk0) hC hr0 h4 dX8_turnToNextOrder_15 ?_
    refine Z_icmp_le (tgt := 25) hC dX8_turnToNextOrder_16 (by decide) (fun c5 => ?_) (fun c5 => ?_)
    · have k := k.1 c5
      refine Z_iload_n hC dX8_turnToNextOrder_25 rfl rfl ?_
      refine Z_if_ge (tgt := 31) hC dX8_turnToNextOrder_26 (by decide) (fun c6 => ?_) (fun c6 => ?_)
      · have k := k.1 c6
        refine Z_iload_n hC dX8_turnToNextOrder_31 rfl rfl ?_
        refine Z_iconst (v := 1) hC dX8_turnToNextOrder_32 rfl ?_
        refine Z_isub hC dX8_turnToNextOrder_33 ?_
        refine Z_istore_n (V2 := [(3, .int (x1 - 1)), (0, .ref (ad ro0 (rk0 + 1))), (1, .int x1), (2, .int x2)]) hC dX8_turnToNextOrder_34 rfl (by decide) rfl ?_
        exact Z_pick [1, 2, 3, 0] rfl k
      · have k := k.2 c6
        refine Z_iconst (v := 0) hC dX8_turnToNextOrder_29 rfl ?_
        exact Z_zret hC dX8_turnToNextOrder_30 rfl k.1 k.2
    · have k := k.2 c5
      refine Z_iinc (v := x2 + (-1)) (V2 := [(2, .int (x2 + (-1))), (0, .ref (ad ro0 (rk0 + 1))), (1, .int x1)]) hC dX8_turnToNextOrder_19 rfl rfl (by decide) rfl ?_
      refine Z_goto (tgt := 4) hC dX8_turnToNextOrder_22 (by decide) ?_
      exact Z_pick [1, 2, 0] rfl k
set_option maxRecDepth 100000 in
set_option maxHeartbeats 4000000 in
theorem bX8_turnToNextOrder_35 {ro0 rk0 rn0 : Nat} (hr0 : zis ro0 rk0 0 rn0) {x1 : Int32} {x2 : Int32} {x3 : Int32} {C : ZC} {X : Option Value} {Y : ZS} {s : ZS} (hC : Zok ad D ia C (d + 1) cX8_turnToNextOrder 6 RX8 (some .boolean)) (k : ((x3 ≤ x2 → (∃ s2 : ZS, Ev l ad D ia d mX8_exchange [.ref (ad ro0 (rk0 + 1)), .int x2, .int x3] s none s2 ∧ Z l ad D ia C X Y 71 [(0, .ref (ad ro0 (rk0 + 1))), (4, .int (x1 - 1)), (5, .int (x2 + 1))] [] s2)) ∧ (¬ x3 ≤ x2 → (vp_in x3 rn0 ∧ (vp_in x2 rn0 ∧ ((((s ro0).2.2 rk0 x2.toNatClampNeg) ≤ ((s ro0).2.2 rk0 x3.toNatClampNeg) → (∃ s7 : ZS, Ev l ad D ia d mX8_exchange [.ref (ad ro0 (rk0 + 1)), .int x2, .int x3] s none s7 ∧ Z l ad D ia C X Y 71 [(0, .ref (ad ro0 (rk0 + 1))), (4, .int (x1 - 1)), (5, .int (x2 + 1))] [] s7)) ∧ (¬ ((s ro0).2.2 rk0 x2.toNatClampNeg) ≤ ((s ro0).2.2 rk0 x3.toNatClampNeg) → Z l ad D ia C X Y 35 [(0, .ref (ad ro0 (rk0 + 1))), (1, .int x1), (2, .int x2), (3, .int (x3 + (-1)))] [] s))))))) : Z l ad D ia C X Y 35 [(0, .ref (ad ro0 (rk0 + 1))), (1, .int x1), (2, .int x2), (3, .int x3)] [] s := by
  refine Z_iload_n hC dX8_turnToNextOrder_35 rfl rfl ?_
  refine Z_iload_n hC dX8_turnToNextOrder_36 rfl rfl ?_
  refine Z_icmp_le (tgt := 55) hC dX8_turnToNextOrder_37 (by decide) (fun c1 => ?_) (fun c1 => ?_)
  · have k := k.1 c1
    refine Z_aload_n hC dX8_turnToNextOrder_55 rfl rfl ?_
    refine Z_iload_n hC dX8_turnToNextOrder_56 rfl rfl ?_
    refine Z_iload_n hC dX8_turnToNextOrder_57 rfl rfl ?_
    obtain ⟨s2, h3, k⟩ := k
    refine Z_callS (As := [.ref (ad ro0 (rk0 + 1)), .int x2, .int x3]) (rest := []) hC h3 csX8_336 rfl rfl (Nat.le_of_ble_eq_true rfl) dX8_turnToNextOrder_58 ?_
    refine Z_iload_n hC dX8_turnToNextOrder_61 rfl rfl ?_
    refine Z_iconst (v := 1) hC dX8_turnToNextOrder_62 rfl ?_
    refine Z_isub hC dX8_turnToNextOrder_63 ?_
    refine Z_istore (V2 := [(4, .int (x1 - 1)), (0, .ref (ad ro0 (rk0 + 1))), (1, .int x1), (2, .int x2), (3, .int x3)]) hC dX8_turnToNextOrder_64 (by decide) rfl ?_
    refine Z_iload_n hC dX8_turnToNextOrder_66 rfl rfl ?_
    refine Z_iconst (v := 1) hC dX8_turnToNextOrder_67 rfl ?_
    refine Z_iadd hC dX8_turnToNextOrder_68 ?_
    refine Z_istore (V2 := [(5, .int (x2 + 1)), (4, .int (x1 - 1)), (0, .ref (ad ro0 (rk0 + 1))), (1, .int x1), (2, .int x2), (3, .int x3)]) hC dX8_turnToNextOrder_69 (by decide) rfl ?_
    exact Z_pick [2, 1, 0] rfl k
  · have k := k.2 c1
    refine Z_aload_n hC dX8_turnToNextOrder_40 rfl rfl ?_
    refine Z_iload_n hC dX8_turnToNextOrder_41 rfl rfl ?_
    obtain ⟨h4, k⟩ := k
    refine Z_iald (o := ro0) (k := rk0) hC hr0 h4 dX8_turnToNextOrder_42 ?_
    refine Z_aload_n hC dX8_turnToNextOrder_43 rfl rfl ?_
    refine Z_iload_n hC dX8_turnToNextOrder_44 rfl rfl ?_
    obtain ⟨h5, k⟩ := k
    refine Z_iald (o := ro0) (k := rk0) hC hr0 h5 dX8_turnToNextOrder_45 ?_
    refine Z_icmp_ge (tgt := 55) hC dX8_turnToNextOrder_46 (by decide) (fun c6 => ?_) (fun c6 => ?_)
    · have k := k.1 c6
      refine Z_aload_n hC dX8_turnToNextOrder_55 rfl rfl ?_
      refine Z_iload_n hC dX8_turnToNextOrder_56 rfl rfl ?_
      refine Z_iload_n hC dX8_turnToNextOrder_57 rfl rfl ?_
      obtain ⟨s7, h8, k⟩ := k
      refine Z_callS (As := [.ref (ad ro0 (rk0 + 1)), .int x2, .int x3]) (rest := []) hC h8 csX8_336 rfl rfl (Nat.le_of_ble_eq_true rfl) dX8_turnToNextOrder_58 ?_
      refine Z_iload_n hC dX8_turnToNextOrder_61 rfl rfl ?_
      refine Z_iconst (v := 1) hC dX8_turnToNextOrder_62 rfl ?_
      refine Z_isub hC dX8_turnToNextOrder_63 ?_
      refine Z_istore (V2 := [(4, .int (x1 - 1)), (0, .ref (ad ro0 (rk0 + 1))), (1, .int x1), (2, .int x2), (3, .int x3)]) hC dX8_turnToNextOrder_64 (by decide) rfl ?_
      refine Z_iload_n hC dX8_turnToNextOrder_66 rfl rfl ?_
      refine Z_iconst (v := 1) hC dX8_turnToNextOrder_67 rfl ?_
      refine Z_iadd hC dX8_turnToNextOrder_68 ?_
      refine Z_istore (V2 := [(5, .int (x2 + 1)), (4, .int (x1 - 1)), (0, .ref (ad ro0 (rk0 + 1))), (1, .int x1), (2, .int x2), (3, .int x3)]) hC dX8_turnToNextOrder_69 (by decide) rfl ?_
      exact Z_pick [2, 1, 0] rfl k
    · have k := k.2 c6
      refine Z_iinc (v := x3 + (-1)) (V2 := [(3, .int (x3 + (-1))), (0, .ref (ad ro0 (rk0 + 1))), (1, .int x1), (2, .int x2)]) hC dX8_turnToNextOrder_49 rfl rfl (by decide) rfl ?_
      refine Z_goto (tgt := 35) hC dX8_turnToNextOrder_52 (by decide) ?_
      exact Z_pick [1, 2, 3, 0] rfl k
set_option maxRecDepth 100000 in
set_option maxHeartbeats 4000000 in
theorem bX8_turnToNextOrder_71 {ro0 rk0 rn0 : Nat} (hr0 : zis ro0 rk0 0 rn0) {x4 : Int32} {x5 : Int32} {C : ZC} {X : Option Value} {Y : ZS} {s : ZS} (hC : Zok ad D ia C (d + 1) cX8_turnToNextOrder 6 RX8 (some .boolean)) (k : ((x4 ≤ x5 → (X = some (.int 1) ∧ Y = s)) ∧ (¬ x4 ≤ x5 → (∃ s2 : ZS, Ev l ad D ia d mX8_exchange [.ref (ad ro0 (rk0 + 1)), .int x5, .int x4] s none s2 ∧ Z l ad D ia C X Y 71 [(0, .ref (ad ro0 (rk0 + 1))), (4, .int (x4 + (-1))), (5, .int (x5 + 1))] [] s2)))) : Z l ad D ia C X Y 71 [(0, .ref (ad ro0 (rk0 + 1))), (4, .int x4), (5, .int x5)] [] s := by
  refine Z_iload hC dX8_turnToNextOrder_71 rfl ?_
  refine Z_iload hC dX8_turnToNextOrder_73 rfl ?_
  refine Z_icmp_ge (tgt := 95) hC dX8_turnToNextOrder_75 (by decide) (fun c1 => ?_) (fun c1 => ?_)
  · have k := k.1 c1
    refine Z_iconst (v := 1) hC dX8_turnToNextOrder_95 rfl ?_
    exact Z_zret hC dX8_turnToNextOrder_96 rfl k.1 k.2
  · have k := k.2 c1
    refine Z_aload_n hC dX8_turnToNextOrder_78 rfl rfl ?_
    refine Z_iload hC dX8_turnToNextOrder_79 rfl ?_
    refine Z_iload hC dX8_turnToNextOrder_81 rfl ?_
    obtain ⟨s2, h3, k⟩ := k
    refine Z_callS (As := [.ref (ad ro0 (rk0 + 1)), .int x5, .int x4]) (rest := []) hC h3 csX8_336 rfl rfl (Nat.le_of_ble_eq_true rfl) dX8_turnToNextOrder_83 ?_
    refine Z_iinc (v := x4 + (-1)) (V2 := [(4, .int (x4 + (-1))), (0, .ref (ad ro0 (rk0 + 1))), (5, .int x5)]) hC dX8_turnToNextOrder_86 rfl rfl (by decide) rfl ?_
    refine Z_iinc (v := x5 + 1) (V2 := [(5, .int (x5 + 1)), (4, .int (x4 + (-1))), (0, .ref (ad ro0 (rk0 + 1)))]) hC dX8_turnToNextOrder_89 rfl rfl (by decide) rfl ?_
    refine Z_goto (tgt := 71) hC dX8_turnToNextOrder_92 (by decide) ?_
    exact Z_pick [2, 1, 0] rfl k
set_option maxRecDepth 100000 in
set_option maxHeartbeats 4000000 in
theorem bX8_exchange_0 {ro0 rk0 rn0 : Nat} (hr0 : zis ro0 rk0 0 rn0) {x1 : Int32} {x2 : Int32} {C : ZC} {X : Option Value} {Y : ZS} {s : ZS} (hC : Zok ad D ia C (d + 1) cX8_exchange 3 RX8 none) (k : (vp_in x1 rn0 ∧ (∃ (r3 : Int32) (s2 : ZS), Ev l ad D ia d mX8_replace [.ref (ad ro0 (rk0 + 1)), .int x2, .int ((s ro0).2.2 rk0 x1.toNatClampNeg)] s (some (.int r3)) s2 ∧ (vp_in x1 rn0 ∧ (∀ s6 : ZS, s6 = stA s2 ro0 rk0 x1.toNatClampNeg r3 → (X = none ∧ Y = s6)))))) : Z l ad D ia C X Y 0 [(0, .ref (ad ro0 (rk0 + 1))), (1, .int x1), (2, .int x2)] [] s := by
  refine Z_aload_n hC dX8_exchange_0 rfl rfl ?_
  refine Z_iload_n hC dX8_exchange_1 rfl rfl ?_
  refine Z_aload_n hC dX8_exchange_2 rfl rfl ?_
  refine Z_iload_n hC dX8_exchange_3 rfl rfl ?_
  refine Z_aload_n hC dX8_exchange_4 rfl rfl ?_
  refine Z_iload_n hC dX8_exchange_5 rfl rfl ?_
  obtain ⟨h1, k⟩ := k
  refine Z_iald (o := ro0) (k := rk0) hC hr0 h1 dX8_exchange_6 ?_
  obtain ⟨r3, s2, h4, k⟩ := k
  refine Z_callS (As := [.ref (ad ro0 (rk0 + 1)), .int x2, .int ((s ro0).2.2 rk0 x1.toNatClampNeg)]) (rest := [.int x1, .ref (ad ro0 (rk0 + 1))]) hC h4 csX8_184 rfl rfl (Nat.le_of_ble_eq_true rfl) dX8_exchange_7 ?_
  obtain ⟨h5, k⟩ := k
  refine Z_iast2 (o := ro0) (k := rk0) hC hr0 h5 dX8_exchange_10 (fun s6 es6 => ?_)
  have k := k s6 es6
  exact Z_vret hC dX8_exchange_11 k.1 k.2
theorem eX8_exchange {ro0 rk0 rn0 : Nat} (hr0 : zis ro0 rk0 0 rn0) {x1 : Int32} {x2 : Int32} {X : Option Value} {Y : ZS} {s : ZS} (k : (vp_in x1 rn0 ∧ (∃ (r3 : Int32) (s2 : ZS), Ev l ad D ia d mX8_replace [.ref (ad ro0 (rk0 + 1)), .int x2, .int ((s ro0).2.2 rk0 x1.toNatClampNeg)] s (some (.int r3)) s2 ∧ (vp_in x1 rn0 ∧ (∀ s6 : ZS, s6 = stA s2 ro0 rk0 x1.toNatClampNeg r3 → (X = none ∧ Y = s6)))))) : Ev l ad D ia (d + 1) mX8_exchange [.ref (ad ro0 (rk0 + 1)), .int x1, .int x2] s X Y :=
  Ev.start (by decide +kernel) (Nat.le_of_ble_eq_true rfl) (fun C hC => bX8_exchange_0 hr0 hC k)
set_option maxRecDepth 100000 in
set_option maxHeartbeats 4000000 in
theorem bX8_heightsAsSeen_0 {x1 : Int32} {C : ZC} {X : Option Value} {Y : ZS} {s : ZS} (hC : Zok ad D ia C (d + 1) cX8_heightsAsSeen 4 RX8 (some .int)) (k : Z l ad D ia C X Y 4 [(0, .ref (ad 0 0)), (1, .int x1), (2, .int 0), (3, .int 0)] [] s) : Z l ad D ia C X Y 0 [(0, .ref (ad 0 0)), (1, .int x1)] [] s := by
  refine Z_iconst (v := 0) hC dX8_heightsAsSeen_0 rfl ?_
  refine Z_istore_n (V2 := [(2, .int 0), (0, .ref (ad 0 0)), (1, .int x1)]) hC dX8_heightsAsSeen_1 rfl (by decide) rfl ?_
  refine Z_iconst (v := 0) hC dX8_heightsAsSeen_2 rfl ?_
  refine Z_istore_n (V2 := [(3, .int 0), (2, .int 0), (0, .ref (ad 0 0)), (1, .int x1)]) hC dX8_heightsAsSeen_3 rfl (by decide) rfl ?_
  exact Z_pick [2, 3, 1, 0] rfl k
theorem eX8_heightsAsSeen {x1 : Int32} {X : Option Value} {Y : ZS} {s : ZS} (k : ∀ C : ZC, Zok ad D ia C (d + 1) cX8_heightsAsSeen 4 RX8 (some .int) → Z l ad D ia C X Y 4 [(0, .ref (ad 0 0)), (1, .int x1), (2, .int 0), (3, .int 0)] [] s) : Ev l ad D ia (d + 1) mX8_heightsAsSeen [.ref (ad 0 0), .int x1] s X Y :=
  Ev.start (by decide +kernel) (Nat.le_of_ble_eq_true rfl) (fun C hC => bX8_heightsAsSeen_0  hC (k C hC))
set_option maxRecDepth 100000 in
set_option maxHeartbeats 4000000 in
theorem bX8_heightsAsSeen_4 {x1 : Int32} {x2 : Int32} {x3 : Int32} {C : ZC} {X : Option Value} {Y : ZS} {s : ZS} (hC : Zok ad D ia C (d + 1) cX8_heightsAsSeen 4 RX8 (some .int)) (k : ((9 < x3 → (X = some (.int x2) ∧ Y = s)) ∧ (¬ 9 < x3 → (∃ s2 : ZS, Ev l ad D ia d mX8_beginTrial [.ref (ad 0 0)] s none s2 ∧ (vp_in x1 8 ∧ (∀ s5 : ZS, s5 = stA s2 2 2 x1.toNatClampNeg x3 → (∃ (r7 : Int32) (s6 : ZS), Ev l ad D ia d mX6_agreeWith [.ref (ad 7 0), .ref (ad 2 0)] s5 (some (.int r7)) s6 ∧ ((r7 = 0 → Z l ad D ia C X Y 4 [(0, .ref (ad 0 0)), (1, .int x1), (2, .int x2), (3, .int (x3 + 1))] [] s6) ∧ (¬ r7 = 0 → Z l ad D ia C X Y 4 [(0, .ref (ad 0 0)), (1, .int x1), (2, .int (x2 ||| (1 <<< (x3 &&& 31)))), (3, .int (x3 + 1))] [] s6))))))))) : Z l ad D ia C X Y 4 [(0, .ref (ad 0 0)), (1, .int x1), (2, .int x2), (3, .int x3)] [] s := by
  refine Z_iload_n hC dX8_heightsAsSeen_4 rfl rfl ?_
  refine Z_bipush (v := 9) hC dX8_heightsAsSeen_5 rfl ?_
  refine Z_icmp_gt (tgt := 50) hC dX8_heightsAsSeen_7 (by decide) (fun c1 => ?_) (fun c1 => ?_)
  · have k := k.1 c1
    refine Z_iload_n hC dX8_heightsAsSeen_50 rfl rfl ?_
    exact Z_iret hC dX8_heightsAsSeen_51 k.1 k.2
  · have k := k.2 c1
    refine Z_aload_n hC dX8_heightsAsSeen_10 rfl rfl ?_
    obtain ⟨s2, h3, k⟩ := k
    refine Z_callV (As := []) (rest := []) hC h3 cvX8_205 ⟨8, rfl, zs_8, _, rfl, rfl⟩ rfl rfl (Nat.le_of_ble_eq_true rfl) dX8_heightsAsSeen_11 ?_
    refine Z_aload_n hC dX8_heightsAsSeen_14 rfl rfl ?_
    refine Z_get (o := 0) (c := 8) (k := 1) (v := .ref (ad 2 0)) hC rfl zs_8 lkX8_16 rfl dX8_heightsAsSeen_15 ?_
    refine Z_get (o := 2) (c := 0) (k := 2) (v := .ref (ad 2 3)) hC rfl zs_0 lkX8_149 rfl dX8_heightsAsSeen_18 ?_
    refine Z_iload_n hC dX8_heightsAsSeen_21 rfl rfl ?_
    refine Z_iload_n hC dX8_heightsAsSeen_22 rfl rfl ?_
    obtain ⟨h4, k⟩ := k
    refine Z_iast2 (o := 2) (k := 2) hC (zis_of rfl rfl) h4 dX8_heightsAsSeen_23 (fun s5 es5 => ?_)
    have k := k s5 es5
    refine Z_aload_n hC dX8_heightsAsSeen_24 rfl rfl ?_
    refine Z_get (o := 0) (c := 8) (k := 4) (v := .ref (ad 7 0)) hC rfl zs_8 lkX8_29 rfl dX8_heightsAsSeen_25 ?_
    refine Z_aload_n hC dX8_heightsAsSeen_28 rfl rfl ?_
    refine Z_get (o := 0) (c := 8) (k := 1) (v := .ref (ad 2 0)) hC rfl zs_8 lkX8_16 rfl dX8_heightsAsSeen_29 ?_
    obtain ⟨r7, s6, h8, k⟩ := k
    refine Z_callV (As := [.ref (ad 2 0)]) (rest := []) hC h8 cvX8_275 ⟨6, rfl, zs_6, _, rfl, rfl⟩ rfl rfl (Nat.le_of_ble_eq_true rfl) dX8_heightsAsSeen_32 ?_
    refine Z_if_eq (tgt := 44) hC dX8_heightsAsSeen_35 (by decide) (fun c9 => ?_) (fun c9 => ?_)
    · have k := k.1 c9
      refine Z_iinc (v := x3 + 1) (V2 := [(3, .int (x3 + 1)), (0, .ref (ad 0 0)), (1, .int x1), (2, .int x2)]) hC dX8_heightsAsSeen_44 rfl rfl (by decide) rfl ?_
      refine Z_goto (tgt := 4) hC dX8_heightsAsSeen_47 (by decide) ?_
      exact Z_pick [1, 2, 3, 0] rfl k
    · have k := k.2 c9
      refine Z_iload_n hC dX8_heightsAsSeen_38 rfl rfl ?_
      refine Z_iconst (v := 1) hC dX8_heightsAsSeen_39 rfl ?_
      refine Z_iload_n hC dX8_heightsAsSeen_40 rfl rfl ?_
      refine Z_ishl hC dX8_heightsAsSeen_41 ?_
      refine Z_ior hC dX8_heightsAsSeen_42 ?_
      refine Z_istore_n (V2 := [(2, .int (x2 ||| (1 <<< (x3 &&& 31)))), (0, .ref (ad 0 0)), (1, .int x1), (3, .int x3)]) hC dX8_heightsAsSeen_43 rfl (by decide) rfl ?_
      refine Z_iinc (v := x3 + 1) (V2 := [(3, .int (x3 + 1)), (2, .int (x2 ||| (1 <<< (x3 &&& 31)))), (0, .ref (ad 0 0)), (1, .int x1)]) hC dX8_heightsAsSeen_44 rfl rfl (by decide) rfl ?_
      refine Z_goto (tgt := 4) hC dX8_heightsAsSeen_47 (by decide) ?_
      exact Z_pick [2, 3, 1, 0] rfl k
set_option maxRecDepth 100000 in
set_option maxHeartbeats 4000000 in
theorem bX8_imagesTaken_0 {C : ZC} {X : Option Value} {Y : ZS} {s : ZS} (hC : Zok ad D ia C d cX8_imagesTaken 3 RX8 (some .int)) (k : Z l ad D ia C X Y 4 [(0, .ref (ad 0 0)), (1, .int 0), (2, .int 0)] [] s) : Z l ad D ia C X Y 0 [(0, .ref (ad 0 0))] [] s := by
  refine Z_iconst (v := 0) hC dX8_imagesTaken_0 rfl ?_
  refine Z_istore_n (V2 := [(1, .int 0), (0, .ref (ad 0 0))]) hC dX8_imagesTaken_1 rfl (by decide) rfl ?_
  refine Z_iconst (v := 0) hC dX8_imagesTaken_2 rfl ?_
  refine Z_istore_n (V2 := [(2, .int 0), (1, .int 0), (0, .ref (ad 0 0))]) hC dX8_imagesTaken_3 rfl (by decide) rfl ?_
  exact Z_pick [2, 1, 0] rfl k
theorem eX8_imagesTaken {X : Option Value} {Y : ZS} {s : ZS} (k : ∀ C : ZC, Zok ad D ia C d cX8_imagesTaken 3 RX8 (some .int) → Z l ad D ia C X Y 4 [(0, .ref (ad 0 0)), (1, .int 0), (2, .int 0)] [] s) : Ev l ad D ia d mX8_imagesTaken [.ref (ad 0 0)] s X Y :=
  Ev.start (by decide +kernel) (Nat.le_of_ble_eq_true rfl) (fun C hC => bX8_imagesTaken_0  hC (k C hC))
set_option maxRecDepth 100000 in
set_option maxHeartbeats 4000000 in
theorem bX8_imagesTaken_4 {x1 : Int32} {x2 : Int32} {C : ZC} {X : Option Value} {Y : ZS} {s : ZS} (hC : Zok ad D ia C d cX8_imagesTaken 3 RX8 (some .int)) (k : ((2 ≤ x2 → (X = some (.int x1) ∧ Y = s)) ∧ (¬ 2 ≤ x2 → (vp_in x2 2 ∧ (zcls (10 + x2.toNatClampNeg) = 1 ∧ ((((s (10 + x2.toNatClampNeg)).1 0) = 0 → Z l ad D ia C X Y 4 [(0, .ref (ad 0 0)), (1, .int x1), (2, .int (x2 + 1))] [] s) ∧ (¬ ((s (10 + x2.toNatClampNeg)).1 0) = 0 → Z l ad D ia C X Y 4 [(0, .ref (ad 0 0)), (1, .int (x1 + 1)), (2, .int (x2 + 1))] [] s))))))) : Z l ad D ia C X Y 4 [(0, .ref (ad 0 0)), (1, .int x1), (2, .int x2)] [] s := by
  refine Z_iload_n hC dX8_imagesTaken_4 rfl rfl ?_
  refine Z_iconst (v := 2) hC dX8_imagesTaken_5 rfl ?_
  refine Z_icmp_ge (tgt := 30) hC dX8_imagesTaken_6 (by decide) (fun c1 => ?_) (fun c1 => ?_)
  · have k := k.1 c1
    refine Z_iload_n hC dX8_imagesTaken_30 rfl rfl ?_
    exact Z_iret hC dX8_imagesTaken_31 k.1 k.2
  · have k := k.2 c1
    refine Z_aload_n hC dX8_imagesTaken_9 rfl rfl ?_
    refine Z_get (o := 0) (c := 8) (k := 5) (v := .ref (ad 0 6)) hC rfl zs_8 lkX8_35 rfl dX8_imagesTaken_10 ?_
    refine Z_iload_n hC dX8_imagesTaken_13 rfl rfl ?_
    obtain ⟨h2, k⟩ := k
    refine Z_aaldM hC h2 dX8_imagesTaken_14 ?_
    obtain ⟨h3, k⟩ := k
    refine Z_get (o := 10 + x2.toNatClampNeg) (c := 1) (k := 0) (v := .int ((s (10 + x2.toNatClampNeg)).1 0)) hC h3 zs_1 lkX8_116 rfl dX8_imagesTaken_15 ?_
    refine Z_if_eq (tgt := 24) hC dX8_imagesTaken_18 (by decide) (fun c4 => ?_) (fun c4 => ?_)
    · have k := k.1 c4
      refine Z_iinc (v := x2 + 1) (V2 := [(2, .int (x2 + 1)), (0, .ref (ad 0 0)), (1, .int x1)]) hC dX8_imagesTaken_24 rfl rfl (by decide) rfl ?_
      refine Z_goto (tgt := 4) hC dX8_imagesTaken_27 (by decide) ?_
      exact Z_pick [1, 2, 0] rfl k
    · have k := k.2 c4
      refine Z_iinc (v := x1 + 1) (V2 := [(1, .int (x1 + 1)), (0, .ref (ad 0 0)), (2, .int x2)]) hC dX8_imagesTaken_21 rfl rfl (by decide) rfl ?_
      refine Z_iinc (v := x2 + 1) (V2 := [(2, .int (x2 + 1)), (1, .int (x1 + 1)), (0, .ref (ad 0 0))]) hC dX8_imagesTaken_24 rfl rfl (by decide) rfl ?_
      refine Z_goto (tgt := 4) hC dX8_imagesTaken_27 (by decide) ?_
      exact Z_pick [2, 1, 0] rfl k
end ZL
