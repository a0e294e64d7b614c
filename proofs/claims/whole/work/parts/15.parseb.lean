section ZL
variable {l : Launch} {ad : ZA} {D : va_G} {ia : Nat → ClassId} {d : Nat}
set_option maxRecDepth 100000 in
set_option maxHeartbeats 4000000 in
theorem bX3_begin_0 {C : ZC} {X : Option Value} {Y : ZS} {s : ZS} (hC : Zok ad D ia C (d + 1) cX3_begin 1 RX3 none) (k : (∀ s1 : ZS, s1 = stI s 17 0 0 → (∀ s2 : ZS, s2 = stI s1 17 1 0 → (∀ s3 : ZS, s3 = stI s2 17 2 0 → (∀ s4 : ZS, s4 = stI s3 17 3 0 → (∃ s5 : ZS, Ev l ad D ia d mX7_rewind [.ref (ad 16 0)] s4 none s5 ∧ (∃ s7 : ZS, Ev l ad D ia d mX0_clear [.ref (ad 3 0)] s5 none s7 ∧ (∃ s9 : ZS, Ev l ad D ia d mX3_takeToken [.ref (ad 17 0)] s7 none s9 ∧ (X = none ∧ Y = s9))))))))) : Z l ad D ia C X Y 0 [(0, .ref (ad 17 0))] [] s := by
  refine Z_aload_n hC dX3_begin_0 rfl rfl ?_
  refine Z_iconst (v := 0) hC dX3_begin_1 rfl ?_
  refine Z_putI (o := 17) (k := 0) hC rfl zs_3 pkX3_25 rfl rfl (hsX3_0 _ _ _) dX3_begin_2 (fun s1 es1 => ?_)
  have k := k s1 es1
  refine Z_aload_n hC dX3_begin_5 rfl rfl ?_
  refine Z_iconst (v := 0) hC dX3_begin_6 rfl ?_
  refine Z_putI (o := 17) (k := 1) hC rfl zs_3 pkX3_29 rfl rfl (hsX3_1 _ _ _) dX3_begin_7 (fun s2 es2 => ?_)
  have k := k s2 es2
  refine Z_aload_n hC dX3_begin_10 rfl rfl ?_
  refine Z_iconst (v := 0) hC dX3_begin_11 rfl ?_
  refine Z_putI (o := 17) (k := 2) hC rfl zs_3 pkX3_32 rfl rfl (hsX3_2 _ _ _) dX3_begin_12 (fun s3 es3 => ?_)
  have k := k s3 es3
  refine Z_aload_n hC dX3_begin_15 rfl rfl ?_
  refine Z_iconst (v := 0) hC dX3_begin_16 rfl ?_
  refine Z_putI (o := 17) (k := 3) hC rfl zs_3 pkX3_35 rfl rfl (hsX3_3 _ _ _) dX3_begin_17 (fun s4 es4 => ?_)
  have k := k s4 es4
  refine Z_aload_n hC dX3_begin_20 rfl rfl ?_
  refine Z_get (o := 17) (c := 3) (k := 4) (v := .ref (ad 16 0)) hC rfl zs_3 lkX3_12 rfl dX3_begin_21 ?_
  obtain ⟨s5, h6, k⟩ := k
  refine Z_callV (As := []) (rest := []) hC h6 cvX3_39 ⟨7, rfl, zs_7, _, rfl, rfl⟩ rfl rfl (Nat.le_of_ble_eq_true rfl) dX3_begin_24 ?_
  refine Z_aload_n hC dX3_begin_27 rfl rfl ?_
  refine Z_get (o := 17) (c := 3) (k := 5) (v := .ref (ad 3 0)) hC rfl zs_3 lkX3_21 rfl dX3_begin_28 ?_
  obtain ⟨s7, h8, k⟩ := k
  refine Z_callV (As := []) (rest := []) hC h8 cvX3_42 ⟨0, rfl, zs_0, _, rfl, rfl⟩ rfl rfl (Nat.le_of_ble_eq_true rfl) dX3_begin_31 ?_
  refine Z_aload_n hC dX3_begin_34 rfl rfl ?_
  obtain ⟨s9, h10, k⟩ := k
  refine Z_callV (As := []) (rest := []) hC h10 cvX3_45 ⟨3, rfl, zs_3, _, rfl, rfl⟩ rfl rfl (Nat.le_of_ble_eq_true rfl) dX3_begin_35 ?_
  exact Z_vret hC dX3_begin_38 k.1 k.2
theorem eX3_begin {X : Option Value} {Y : ZS} {s : ZS} (k : (∀ s1 : ZS, s1 = stI s 17 0 0 → (∀ s2 : ZS, s2 = stI s1 17 1 0 → (∀ s3 : ZS, s3 = stI s2 17 2 0 → (∀ s4 : ZS, s4 = stI s3 17 3 0 → (∃ s5 : ZS, Ev l ad D ia d mX7_rewind [.ref (ad 16 0)] s4 none s5 ∧ (∃ s7 : ZS, Ev l ad D ia d mX0_clear [.ref (ad 3 0)] s5 none s7 ∧ (∃ s9 : ZS, Ev l ad D ia d mX3_takeToken [.ref (ad 17 0)] s7 none s9 ∧ (X = none ∧ Y = s9))))))))) : Ev l ad D ia (d + 1) mX3_begin [.ref (ad 17 0)] s X Y :=
  Ev.start (by decide +kernel) (Nat.le_of_ble_eq_true rfl) (fun C hC => bX3_begin_0  hC k)
set_option maxRecDepth 100000 in
set_option maxHeartbeats 4000000 in
theorem bX3_isAtLine_0 {C : ZC} {X : Option Value} {Y : ZS} {s : ZS} (hC : Zok ad D ia C d cX3_isAtLine 1 RX3 (some .boolean)) (k : ((¬ ((s 17).1 0) = 0 → (X = some (.int 0) ∧ Y = s)) ∧ (((s 17).1 0) = 0 → ((((s 16).1 2) = 0 → (X = some (.int 0) ∧ Y = s)) ∧ (¬ ((s 16).1 2) = 0 → (X = some (.int 1) ∧ Y = s)))))) : Z l ad D ia C X Y 0 [(0, .ref (ad 17 0))] [] s := by
  refine Z_aload_n hC dX3_isAtLine_0 rfl rfl ?_
  refine Z_get (o := 17) (c := 3) (k := 0) (v := .int ((s 17).1 0)) hC rfl zs_3 lkX3_25 rfl dX3_isAtLine_1 ?_
  refine Z_if_ne (tgt := 21) hC dX3_isAtLine_4 (by decide) (fun c1 => ?_) (fun c1 => ?_)
  · have k := k.1 c1
    refine Z_iconst (v := 0) hC dX3_isAtLine_21 rfl ?_
    exact Z_zret hC dX3_isAtLine_22 rfl k.1 k.2
  · have k := k.2 c1
    refine Z_aload_n hC dX3_isAtLine_7 rfl rfl ?_
    refine Z_get (o := 17) (c := 3) (k := 4) (v := .ref (ad 16 0)) hC rfl zs_3 lkX3_12 rfl dX3_isAtLine_8 ?_
    refine Z_get (o := 16) (c := 7) (k := 2) (v := .int ((s 16).1 2)) hC rfl zs_7 lkX3_48 rfl dX3_isAtLine_11 ?_
    refine Z_if_eq (tgt := 21) hC dX3_isAtLine_14 (by decide) (fun c2 => ?_) (fun c2 => ?_)
    · have k := k.1 c2
      refine Z_iconst (v := 0) hC dX3_isAtLine_21 rfl ?_
      exact Z_zret hC dX3_isAtLine_22 rfl k.1 k.2
    · have k := k.2 c2
      refine Z_iconst (v := 1) hC dX3_isAtLine_17 rfl ?_
      refine Z_goto (tgt := 22) hC dX3_isAtLine_18 (by decide) ?_
      exact Z_zret hC dX3_isAtLine_22 rfl k.1 k.2
theorem eX3_isAtLine {X : Option Value} {Y : ZS} {s : ZS} (k : ((¬ ((s 17).1 0) = 0 → (X = some (.int 0) ∧ Y = s)) ∧ (((s 17).1 0) = 0 → ((((s 16).1 2) = 0 → (X = some (.int 0) ∧ Y = s)) ∧ (¬ ((s 16).1 2) = 0 → (X = some (.int 1) ∧ Y = s)))))) : Ev l ad D ia d mX3_isAtLine [.ref (ad 17 0)] s X Y :=
  Ev.start (by decide +kernel) (Nat.le_of_ble_eq_true rfl) (fun C hC => bX3_isAtLine_0  hC k)
set_option maxRecDepth 100000 in
set_option maxHeartbeats 4000000 in
theorem bX3_finish_0 {C : ZC} {X : Option Value} {Y : ZS} {s : ZS} (hC : Zok ad D ia C (d + 1) cX3_finish 1 RX3 none) (k : (∃ (r2 : Int32) (s1 : ZS), Ev l ad D ia d mX3_namesMissingBook [.ref (ad 17 0)] s (some (.int r2)) s1 ∧ ((r2 = 0 → (X = none ∧ Y = s1)) ∧ (¬ r2 = 0 → (∃ s5 : ZS, Ev l ad D ia d mX3_refuse [.ref (ad 17 0), .int 6, .int ((s1 16).1 1)] s1 none s5 ∧ (X = none ∧ Y = s5)))))) : Z l ad D ia C X Y 0 [(0, .ref (ad 17 0))] [] s := by
  refine Z_aload_n hC dX3_finish_0 rfl rfl ?_
  obtain ⟨r2, s1, h3, k⟩ := k
  refine Z_callV (As := []) (rest := []) hC h3 cvX3_51 ⟨3, rfl, zs_3, _, rfl, rfl⟩ rfl rfl (Nat.le_of_ble_eq_true rfl) dX3_finish_1 ?_
  refine Z_if_eq (tgt := 20) hC dX3_finish_4 (by decide) (fun c4 => ?_) (fun c4 => ?_)
  · have k := k.1 c4
    exact Z_vret hC dX3_finish_20 k.1 k.2
  · have k := k.2 c4
    refine Z_aload_n hC dX3_finish_7 rfl rfl ?_
    refine Z_bipush (v := 6) hC dX3_finish_8 rfl ?_
    refine Z_aload_n hC dX3_finish_10 rfl rfl ?_
    refine Z_get (o := 17) (c := 3) (k := 4) (v := .ref (ad 16 0)) hC rfl zs_3 lkX3_12 rfl dX3_finish_11 ?_
    refine Z_get (o := 16) (c := 7) (k := 1) (v := .int ((s1 16).1 1)) hC rfl zs_7 lkX3_55 rfl dX3_finish_14 ?_
    obtain ⟨s5, h6, k⟩ := k
    refine Z_callV (As := [.int 6, .int ((s1 16).1 1)]) (rest := []) hC h6 cvX3_58 ⟨3, rfl, zs_3, _, rfl, rfl⟩ rfl rfl (Nat.le_of_ble_eq_true rfl) dX3_finish_17 ?_
    exact Z_vret hC dX3_finish_20 k.1 k.2
theorem eX3_finish {X : Option Value} {Y : ZS} {s : ZS} (k : (∃ (r2 : Int32) (s1 : ZS), Ev l ad D ia d mX3_namesMissingBook [.ref (ad 17 0)] s (some (.int r2)) s1 ∧ ((r2 = 0 → (X = none ∧ Y = s1)) ∧ (¬ r2 = 0 → (∃ s5 : ZS, Ev l ad D ia d mX3_refuse [.ref (ad 17 0), .int 6, .int ((s1 16).1 1)] s1 none s5 ∧ (X = none ∧ Y = s5)))))) : Ev l ad D ia (d + 1) mX3_finish [.ref (ad 17 0)] s X Y :=
  Ev.start (by decide +kernel) (Nat.le_of_ble_eq_true rfl) (fun C hC => bX3_finish_0  hC k)
set_option maxRecDepth 100000 in
set_option maxHeartbeats 4000000 in
theorem bX3_refuse_0 {x1 : Int32} {x2 : Int32} {C : ZC} {X : Option Value} {Y : ZS} {s : ZS} (hC : Zok ad D ia C d cX3_refuse 3 RX3 none) (k : ((¬ ((s 17).1 0) = 0 → (X = none ∧ Y = s)) ∧ (((s 17).1 0) = 0 → (∀ s2 : ZS, s2 = stI s 17 0 x1 → (∀ s3 : ZS, s3 = stI s2 17 1 x2 → (X = none ∧ Y = s3)))))) : Z l ad D ia C X Y 0 [(0, .ref (ad 17 0)), (1, .int x1), (2, .int x2)] [] s := by
  refine Z_aload_n hC dX3_refuse_0 rfl rfl ?_
  refine Z_get (o := 17) (c := 3) (k := 0) (v := .int ((s 17).1 0)) hC rfl zs_3 lkX3_25 rfl dX3_refuse_1 ?_
  refine Z_if_ne (tgt := 17) hC dX3_refuse_4 (by decide) (fun c1 => ?_) (fun c1 => ?_)
  · have k := k.1 c1
    exact Z_vret hC dX3_refuse_17 k.1 k.2
  · have k := k.2 c1
    refine Z_aload_n hC dX3_refuse_7 rfl rfl ?_
    refine Z_iload_n hC dX3_refuse_8 rfl rfl ?_
    refine Z_putI (o := 17) (k := 0) hC rfl zs_3 pkX3_25 rfl rfl (hsX3_0 _ _ _) dX3_refuse_9 (fun s2 es2 => ?_)
    have k := k s2 es2
    refine Z_aload_n hC dX3_refuse_12 rfl rfl ?_
    refine Z_iload_n hC dX3_refuse_13 rfl rfl ?_
    refine Z_putI (o := 17) (k := 1) hC rfl zs_3 pkX3_29 rfl rfl (hsX3_1 _ _ _) dX3_refuse_14 (fun s3 es3 => ?_)
    have k := k s3 es3
    exact Z_vret hC dX3_refuse_17 k.1 k.2
theorem eX3_refuse {x1 : Int32} {x2 : Int32} {X : Option Value} {Y : ZS} {s : ZS} (k : ((¬ ((s 17).1 0) = 0 → (X = none ∧ Y = s)) ∧ (((s 17).1 0) = 0 → (∀ s2 : ZS, s2 = stI s 17 0 x1 → (∀ s3 : ZS, s3 = stI s2 17 1 x2 → (X = none ∧ Y = s3)))))) : Ev l ad D ia d mX3_refuse [.ref (ad 17 0), .int x1, .int x2] s X Y :=
  Ev.start (by decide +kernel) (Nat.le_of_ble_eq_true rfl) (fun C hC => bX3_refuse_0  hC k)
set_option maxRecDepth 100000 in
set_option maxHeartbeats 4000000 in
theorem bX3_takeToken_0 {C : ZC} {X : Option Value} {Y : ZS} {s : ZS} (hC : Zok ad D ia C (d + 1) cX3_takeToken 1 RX3 none) (k : ((¬ ((s 17).1 0) = 0 → (X = none ∧ Y = s)) ∧ (((s 17).1 0) = 0 → (∃ s2 : ZS, Ev l ad D ia d mX7_advance [.ref (ad 16 0)] s none s2 ∧ ((¬ ((s2 16).1 2) = 4 → (X = none ∧ Y = s2)) ∧ (((s2 16).1 2) = 4 → (∃ s5 : ZS, Ev l ad D ia d mX3_refuse [.ref (ad 17 0), .int 1, .int ((s2 16).1 3)] s2 none s5 ∧ (X = none ∧ Y = s5)))))))) : Z l ad D ia C X Y 0 [(0, .ref (ad 17 0))] [] s := by
  refine Z_aload_n hC dX3_takeToken_0 rfl rfl ?_
  refine Z_get (o := 17) (c := 3) (k := 0) (v := .int ((s 17).1 0)) hC rfl zs_3 lkX3_25 rfl dX3_takeToken_1 ?_
  refine Z_if_ne (tgt := 37) hC dX3_takeToken_4 (by decide) (fun c1 => ?_) (fun c1 => ?_)
  · have k := k.1 c1
    exact Z_vret hC dX3_takeToken_37 k.1 k.2
  · have k := k.2 c1
    refine Z_aload_n hC dX3_takeToken_7 rfl rfl ?_
    refine Z_get (o := 17) (c := 3) (k := 4) (v := .ref (ad 16 0)) hC rfl zs_3 lkX3_12 rfl dX3_takeToken_8 ?_
    obtain ⟨s2, h3, k⟩ := k
    refine Z_callV (As := []) (rest := []) hC h3 cvX3_62 ⟨7, rfl, zs_7, _, rfl, rfl⟩ rfl rfl (Nat.le_of_ble_eq_true rfl) dX3_takeToken_11 ?_
    refine Z_aload_n hC dX3_takeToken_14 rfl rfl ?_
    refine Z_get (o := 17) (c := 3) (k := 4) (v := .ref (ad 16 0)) hC rfl zs_3 lkX3_12 rfl dX3_takeToken_15 ?_
    refine Z_get (o := 16) (c := 7) (k := 2) (v := .int ((s2 16).1 2)) hC rfl zs_7 lkX3_48 rfl dX3_takeToken_18 ?_
    refine Z_iconst (v := 4) hC dX3_takeToken_21 rfl ?_
    refine Z_icmp_ne (tgt := 37) hC dX3_takeToken_22 (by decide) (fun c4 => ?_) (fun c4 => ?_)
    · have k := k.1 c4
      exact Z_vret hC dX3_takeToken_37 k.1 k.2
    · have k := k.2 c4
      refine Z_aload_n hC dX3_takeToken_25 rfl rfl ?_
      refine Z_iconst (v := 1) hC dX3_takeToken_26 rfl ?_
      refine Z_aload_n hC dX3_takeToken_27 rfl rfl ?_
      refine Z_get (o := 17) (c := 3) (k := 4) (v := .ref (ad 16 0)) hC rfl zs_3 lkX3_12 rfl dX3_takeToken_28 ?_
      refine Z_get (o := 16) (c := 7) (k := 3) (v := .int ((s2 16).1 3)) hC rfl zs_7 lkX3_65 rfl dX3_takeToken_31 ?_
      obtain ⟨s5, h6, k⟩ := k
      refine Z_callV (As := [.int 1, .int ((s2 16).1 3)]) (rest := []) hC h6 cvX3_58 ⟨3, rfl, zs_3, _, rfl, rfl⟩ rfl rfl (Nat.le_of_ble_eq_true rfl) dX3_takeToken_34 ?_
      exact Z_vret hC dX3_takeToken_37 k.1 k.2
theorem eX3_takeToken {X : Option Value} {Y : ZS} {s : ZS} (k : ((¬ ((s 17).1 0) = 0 → (X = none ∧ Y = s)) ∧ (((s 17).1 0) = 0 → (∃ s2 : ZS, Ev l ad D ia d mX7_advance [.ref (ad 16 0)] s none s2 ∧ ((¬ ((s2 16).1 2) = 4 → (X = none ∧ Y = s2)) ∧ (((s2 16).1 2) = 4 → (∃ s5 : ZS, Ev l ad D ia d mX3_refuse [.ref (ad 17 0), .int 1, .int ((s2 16).1 3)] s2 none s5 ∧ (X = none ∧ Y = s5)))))))) : Ev l ad D ia (d + 1) mX3_takeToken [.ref (ad 17 0)] s X Y :=
  Ev.start (by decide +kernel) (Nat.le_of_ble_eq_true rfl) (fun C hC => bX3_takeToken_0  hC k)
set_option maxRecDepth 100000 in
set_option maxHeartbeats 4000000 in
theorem bX3_parseBook_0 {C : ZC} {X : Option Value} {Y : ZS} {s : ZS} (hC : Zok ad D ia C (d + 1) cX3_parseBook 4 RX3 none) (k : ((((s 3).1 0) < 8 → (∃ (r3 : Int32) (s2 : ZS), Ev l ad D ia d mX3_takeNumber [.ref (ad 17 0), .int 0, .int 7] s (some (.int r3)) s2 ∧ (∃ (r6 : Int32) (s5 : ZS), Ev l ad D ia d mX3_takeNumber [.ref (ad 17 0), .int 0, .int 9] s2 (some (.int r6)) s5 ∧ (∃ (r9 : Int32) (s8 : ZS), Ev l ad D ia d mX3_takeNumber [.ref (ad 17 0), .int 0, .int 9] s5 (some (.int r9)) s8 ∧ (∃ (r12 : Int32) (s11 : ZS), Ev l ad D ia d mX3_bookTold [.ref (ad 17 0), .int r9] s8 (some (.int r12)) s11 ∧ (∃ s14 : ZS, Ev l ad D ia d mX3_takeStop [.ref (ad 17 0)] s11 none s14 ∧ (∃ s16 : ZS, Ev l ad D ia d mX0_addBook [.ref (ad 3 0), .int r3, .int r6, .int r12] s14 none s16 ∧ (X = none ∧ Y = s16)))))))) ∧ (¬ ((s 3).1 0) < 8 → (∃ s18 : ZS, Ev l ad D ia d mX3_refuse [.ref (ad 17 0), .int 5, .int ((s 16).1 3)] s none s18 ∧ (∃ (r21 : Int32) (s20 : ZS), Ev l ad D ia d mX3_takeNumber [.ref (ad 17 0), .int 0, .int 7] s18 (some (.int r21)) s20 ∧ (∃ (r24 : Int32) (s23 : ZS), Ev l ad D ia d mX3_takeNumber [.ref (ad 17 0), .int 0, .int 9] s20 (some (.int r24)) s23 ∧ (∃ (r27 : Int32) (s26 : ZS), Ev l ad D ia d mX3_takeNumber [.ref (ad 17 0), .int 0, .int 9] s23 (some (.int r27)) s26 ∧ (∃ (r30 : Int32) (s29 : ZS), Ev l ad D ia d mX3_bookTold [.ref (ad 17 0), .int r27] s26 (some (.int r30)) s29 ∧ (∃ s32 : ZS, Ev l ad D ia d mX3_takeStop [.ref (ad 17 0)] s29 none s32 ∧ (∃ s34 : ZS, Ev l ad D ia d mX0_addBook [.ref (ad 3 0), .int r21, .int r24, .int r30] s32 none s34 ∧ (X = none ∧ Y = s34))))))))))) : Z l ad D ia C X Y 0 [(0, .ref (ad 17 0))] [] s := by
  refine Z_aload_n hC dX3_parseBook_0 rfl rfl ?_
  refine Z_get (o := 17) (c := 3) (k := 5) (v := .ref (ad 3 0)) hC rfl zs_3 lkX3_21 rfl dX3_parseBook_1 ?_
  refine Z_get (o := 3) (c := 0) (k := 0) (v := .int ((s 3).1 0)) hC rfl zs_0 lkX3_94 rfl dX3_parseBook_4 ?_
  refine Z_bipush (v := 8) hC dX3_parseBook_7 rfl ?_
  refine Z_icmp_lt (tgt := 24) hC dX3_parseBook_9 (by decide) (fun c1 => ?_) (fun c1 => ?_)
  · have k := k.1 c1
    refine Z_aload_n hC dX3_parseBook_24 rfl rfl ?_
    refine Z_iconst (v := 0) hC dX3_parseBook_25 rfl ?_
    refine Z_bipush (v := 7) hC dX3_parseBook_26 rfl ?_
    obtain ⟨r3, s2, h4, k⟩ := k
    refine Z_callV (As := [.int 0, .int 7]) (rest := []) hC h4 cvX3_97 ⟨3, rfl, zs_3, _, rfl, rfl⟩ rfl rfl (Nat.le_of_ble_eq_true rfl) dX3_parseBook_28 ?_
    refine Z_istore_n (V2 := [(1, .int r3), (0, .ref (ad 17 0))]) hC dX3_parseBook_31 rfl (by decide) rfl ?_
    refine Z_aload_n hC dX3_parseBook_32 rfl rfl ?_
    refine Z_iconst (v := 0) hC dX3_parseBook_33 rfl ?_
    refine Z_bipush (v := 9) hC dX3_parseBook_34 rfl ?_
    obtain ⟨r6, s5, h7, k⟩ := k
    refine Z_callV (As := [.int 0, .int 9]) (rest := []) hC h7 cvX3_97 ⟨3, rfl, zs_3, _, rfl, rfl⟩ rfl rfl (Nat.le_of_ble_eq_true rfl) dX3_parseBook_36 ?_
    refine Z_istore_n (V2 := [(2, .int r6), (1, .int r3), (0, .ref (ad 17 0))]) hC dX3_parseBook_39 rfl (by decide) rfl ?_
    refine Z_aload_n hC dX3_parseBook_40 rfl rfl ?_
    refine Z_aload_n hC dX3_parseBook_41 rfl rfl ?_
    refine Z_iconst (v := 0) hC dX3_parseBook_42 rfl ?_
    refine Z_bipush (v := 9) hC dX3_parseBook_43 rfl ?_
    obtain ⟨r9, s8, h10, k⟩ := k
    refine Z_callV (As := [.int 0, .int 9]) (rest := [.ref (ad 17 0)]) hC h10 cvX3_97 ⟨3, rfl, zs_3, _, rfl, rfl⟩ rfl rfl (Nat.le_of_ble_eq_true rfl) dX3_parseBook_45 ?_
    obtain ⟨r12, s11, h13, k⟩ := k
    refine Z_callV (As := [.int r9]) (rest := []) hC h13 cvX3_101 ⟨3, rfl, zs_3, _, rfl, rfl⟩ rfl rfl (Nat.le_of_ble_eq_true rfl) dX3_parseBook_48 ?_
    refine Z_istore_n (V2 := [(3, .int r12), (2, .int r6), (1, .int r3), (0, .ref (ad 17 0))]) hC dX3_parseBook_51 rfl (by decide) rfl ?_
    refine Z_aload_n hC dX3_parseBook_52 rfl rfl ?_
    obtain ⟨s14, h15, k⟩ := k
    refine Z_callV (As := []) (rest := []) hC h15 cvX3_105 ⟨3, rfl, zs_3, _, rfl, rfl⟩ rfl rfl (Nat.le_of_ble_eq_true rfl) dX3_parseBook_53 ?_
    refine Z_aload_n hC dX3_parseBook_56 rfl rfl ?_
    refine Z_get (o := 17) (c := 3) (k := 5) (v := .ref (ad 3 0)) hC rfl zs_3 lkX3_21 rfl dX3_parseBook_57 ?_
    refine Z_iload_n hC dX3_parseBook_60 rfl rfl ?_
    refine Z_iload_n hC dX3_parseBook_61 rfl rfl ?_
    refine Z_iload_n hC dX3_parseBook_62 rfl rfl ?_
    obtain ⟨s16, h17, k⟩ := k
    refine Z_callV (As := [.int r3, .int r6, .int r12]) (rest := []) hC h17 cvX3_108 ⟨0, rfl, zs_0, _, rfl, rfl⟩ rfl rfl (Nat.le_of_ble_eq_true rfl) dX3_parseBook_63 ?_
    exact Z_vret hC dX3_parseBook_66 k.1 k.2
  · have k := k.2 c1
    refine Z_aload_n hC dX3_parseBook_12 rfl rfl ?_
    refine Z_iconst (v := 5) hC dX3_parseBook_13 rfl ?_
    refine Z_aload_n hC dX3_parseBook_14 rfl rfl ?_
    refine Z_get (o := 17) (c := 3) (k := 4) (v := .ref (ad 16 0)) hC rfl zs_3 lkX3_12 rfl dX3_parseBook_15 ?_
    refine Z_get (o := 16) (c := 7) (k := 3) (v := .int ((s 16).1 3)) hC rfl zs_7 lkX3_65 rfl dX3_parseBook_18 ?_
    obtain ⟨s18, h19, k⟩ := k
    refine Z_callV (As := [.int 5, .int ((s 16).1 3)]) (rest := []) hC h19 cvX3_58 ⟨3, rfl, zs_3, _, rfl, rfl⟩ rfl rfl (Nat.le_of_ble_eq_true rfl) dX3_parseBook_21 ?_
    refine Z_aload_n hC dX3_parseBook_24 rfl rfl ?_
    refine Z_iconst (v := 0) hC dX3_parseBook_25 rfl ?_
    refine Z_bipush (v := 7) hC dX3_parseBook_26 rfl ?_
    obtain ⟨r21, s20, h22, k⟩ := k
    refine Z_callV (As := [.int 0, .int 7]) (rest := []) hC h22 cvX3_97 ⟨3, rfl, zs_3, _, rfl, rfl⟩ rfl rfl (Nat.le_of_ble_eq_true rfl) dX3_parseBook_28 ?_
    refine Z_istore_n (V2 := [(1, .int r21), (0, .ref (ad 17 0))]) hC dX3_parseBook_31 rfl (by decide) rfl ?_
    refine Z_aload_n hC dX3_parseBook_32 rfl rfl ?_
    refine Z_iconst (v := 0) hC dX3_parseBook_33 rfl ?_
    refine Z_bipush (v := 9) hC dX3_parseBook_34 rfl ?_
    obtain ⟨r24, s23, h25, k⟩ := k
    refine Z_callV (As := [.int 0, .int 9]) (rest := []) hC h25 cvX3_97 ⟨3, rfl, zs_3, _, rfl, rfl⟩ rfl rfl (Nat.le_of_ble_eq_true rfl) dX3_parseBook_36 ?_
    refine Z_istore_n (V2 := [(2, .int r24), (1, .int r21), (0, .ref (ad 17 0))]) hC dX3_parseBook_39 rfl (by decide) rfl ?_
    refine Z_aload_n hC dX3_parseBook_40 rfl rfl ?_
    refine Z_aload_n hC dX3_parseBook_41 rfl rfl ?_
    refine Z_iconst (v := 0) hC dX3_parseBook_42 rfl ?_
    refine Z_bipush (v := 9) hC dX3_parseBook_43 rfl ?_
    obtain ⟨r27, s26, h28, k⟩ := k
    refine Z_callV (As := [.int 0, .int 9]) (rest := [.ref (ad 17 0)]) hC h28 cvX3_97 ⟨3, rfl, zs_3, _, rfl, rfl⟩ rfl rfl (Nat.le_of_ble_eq_true rfl) dX3_parseBook_45 ?_
    obtain ⟨r30, s29, h31, k⟩ := k
    refine Z_callV (As := [.int r27]) (rest := []) hC h31 cvX3_101 ⟨3, rfl, zs_3, _, rfl, rfl⟩ rfl rfl (Nat.le_of_ble_eq_true rfl) dX3_parseBook_48 ?_
    refine Z_istore_n (V2 := [(3, .int r30), (2, .int r24), (1, .int r21), (0, .ref (ad 17 0))]) hC dX3_parseBook_51 rfl (by decide) rfl ?_
    refine Z_aload_n hC dX3_parseBook_52 rfl rfl ?_
    obtain ⟨s32, h33, k⟩ := k
    refine Z_callV (As := []) (rest := []) hC h33 cvX3_105 ⟨3, rfl, zs_3, _, rfl, rfl⟩ rfl rfl (Nat.le_of_ble_eq_true rfl) dX3_parseBook_53 ?_
    refine Z_aload_n hC dX3_parseBook_56 rfl rfl ?_
    refine Z_get (o := 17) (c := 3) (k := 5) (v := .ref (ad 3 0)) hC rfl zs_3 lkX3_21 rfl dX3_parseBook_57 ?_
    refine Z_iload_n hC dX3_parseBook_60 rfl rfl ?_
    refine Z_iload_n hC dX3_parseBook_61 rfl rfl ?_
    refine Z_iload_n hC dX3_parseBook_62 rfl rfl ?_
    obtain ⟨s34, h35, k⟩ := k
    refine Z_callV (As := [.int r21, .int r24, .int r30]) (rest := []) hC h35 cvX3_108 ⟨0, rfl, zs_0, _, rfl, rfl⟩ rfl rfl (Nat.le_of_ble_eq_true rfl) dX3_parseBook_63 ?_
    exact Z_vret hC dX3_parseBook_66 k.1 k.2
theorem eX3_parseBook {X : Option Value} {Y : ZS} {s : ZS} (k : ((((s 3).1 0) < 8 → (∃ (r3 : Int32) (s2 : ZS), Ev l ad D ia d mX3_takeNumber [.ref (ad 17 0), .int 0, .int 7] s (some (.int r3)) s2 ∧ (∃ (r6 : Int32) (s5 : ZS), Ev l ad D ia d mX3_takeNumber [.ref (ad 17 0), .int 0, .int 9] s2 (some (.int r6)) s5 ∧ (∃ (r9 : Int32) (s8 : ZS), Ev l ad D ia d mX3_takeNumber [.ref (ad 17 0), .int 0, .int 9] s5 (some (.int r9)) s8 ∧ (∃ (r12 : Int32) (s11 : ZS), Ev l ad D ia d mX3_bookTold [.ref (ad 17 0), .int r9] s8 (some (.int r12)) s11 ∧ (∃ s14 : ZS, Ev l ad D ia d mX3_takeStop [.ref (ad 17 0)] s11 none s14 ∧ (∃ s16 : ZS, Ev l ad D ia d mX0_addBook [.ref (ad 3 0), .int r3, .int r6, .int r12] s14 none s16 ∧ (X = none ∧ Y = s16)))))))) ∧ (¬ ((s 3).1 0) < 8 → (∃ s18 : ZS, Ev l ad D ia d mX3_refuse [.ref (ad 17 0), .int 5, .int ((s 16).1 3)] s none s18 ∧ (∃ (r21 : Int32) (s20 : ZS), Ev l ad D ia d mX3_takeNumber [.ref (ad 17 0), .int 0, .int 7] s18 (some (.int r21)) s20 ∧ (∃ (r24 : Int32) (s23 : ZS), Ev l ad D ia d mX3_takeNumber [.ref (ad 17 0), .int 0, .int 9] s20 (some (.int r24)) s23 ∧ (∃ (r27 : Int32) (s26 : ZS), Ev l ad D ia d mX3_takeNumber [.ref (ad 17 0), .int 0, .int 9] s23 (some (.int r27)) s26 ∧ (∃ (r30 : Int32) (s29 : ZS), Ev l ad D ia d mX3_bookTold [.ref (ad 17 0), .int r27] s26 (some (.int r30)) s29 ∧ (∃ s32 : ZS, Ev l ad D ia d mX3_takeStop [.ref (ad 17 0)] s29 none s32 ∧ (∃ s34 : ZS, Ev l ad D ia d mX0_addBook [.ref (ad 3 0), .int r21, .int r24, .int r30] s32 none s34 ∧ (X = none ∧ Y = s34))))))))))) : Ev l ad D ia (d + 1) mX3_parseBook [.ref (ad 17 0)] s X Y :=
  Ev.start (by decide +kernel) (Nat.le_of_ble_eq_true rfl) (fun C hC => bX3_parseBook_0  hC k)
set_option maxRecDepth 100000 in
set_option maxHeartbeats 4000000 in
theorem bX3_parseReader_0 {x1 : Int32} {C : ZC} {X : Option Value} {Y : ZS} {s : ZS} (hC : Zok ad D ia C (d + 1) cX3_parseReader 4 RX3 none) (k : ((((s 3).1 4) < 4 → (∃ (r3 : Int32) (s2 : ZS), Ev l ad D ia d mX3_takeNumber [.ref (ad 17 0), .int 0, .int 9] s (some (.int r3)) s2 ∧ (∃ (r6 : Int32) (s5 : ZS), Ev l ad D ia d mX3_bookTold [.ref (ad 17 0), .int r3] s2 (some (.int r6)) s5 ∧ (∃ (r9 : Int32) (s8 : ZS), Ev l ad D ia d mX3_takeNumber [.ref (ad 17 0), .int 1, .int 99] s5 (some (.int r9)) s8 ∧ (∃ s11 : ZS, Ev l ad D ia d mX3_takeStop [.ref (ad 17 0)] s8 none s11 ∧ (∃ s13 : ZS, Ev l ad D ia d mX0_addReader [.ref (ad 3 0), .int x1, .int r6, .int r9] s11 none s13 ∧ (X = none ∧ Y = s13))))))) ∧ (¬ ((s 3).1 4) < 4 → (∃ s15 : ZS, Ev l ad D ia d mX3_refuse [.ref (ad 17 0), .int 5, .int ((s 16).1 3)] s none s15 ∧ (∃ (r18 : Int32) (s17 : ZS), Ev l ad D ia d mX3_takeNumber [.ref (ad 17 0), .int 0, .int 9] s15 (some (.int r18)) s17 ∧ (∃ (r21 : Int32) (s20 : ZS), Ev l ad D ia d mX3_bookTold [.ref (ad 17 0), .int r18] s17 (some (.int r21)) s20 ∧ (∃ (r24 : Int32) (s23 : ZS), Ev l ad D ia d mX3_takeNumber [.ref (ad 17 0), .int 1, .int 99] s20 (some (.int r24)) s23 ∧ (∃ s26 : ZS, Ev l ad D ia d mX3_takeStop [.ref (ad 17 0)] s23 none s26 ∧ (∃ s28 : ZS, Ev l ad D ia d mX0_addReader [.ref (ad 3 0), .int x1, .int r21, .int r24] s26 none s28 ∧ (X = none ∧ Y = s28)))))))))) : Z l ad D ia C X Y 0 [(0, .ref (ad 17 0)), (1, .int x1)] [] s := by
  refine Z_aload_n hC dX3_parseReader_0 rfl rfl ?_
  refine Z_get (o := 17) (c := 3) (k := 5) (v := .ref (ad 3 0)) hC rfl zs_3 lkX3_21 rfl dX3_parseReader_1 ?_
  refine Z_get (o := 3) (c := 0) (k := 4) (v := .int ((s 3).1 4)) hC rfl zs_0 lkX3_112 rfl dX3_parseReader_4 ?_
  refine Z_iconst (v := 4) hC dX3_parseReader_7 rfl ?_
  refine Z_icmp_lt (tgt := 23) hC dX3_parseReader_8 (by decide) (fun c1 => ?_) (fun c1 => ?_)
  · have k := k.1 c1
    refine Z_aload_n hC dX3_parseReader_23 rfl rfl ?_
    refine Z_aload_n hC dX3_parseReader_24 rfl rfl ?_
    refine Z_iconst (v := 0) hC dX3_parseReader_25 rfl ?_
    refine Z_bipush (v := 9) hC dX3_parseReader_26 rfl ?_
    obtain ⟨r3, s2, h4, k⟩ := k
    refine Z_callV (As := [.int 0, .int 9]) (rest := [.ref (ad 17 0)]) hC h4 cvX3_97 ⟨3, rfl, zs_3, _, rfl, rfl⟩ rfl rfl (Nat.le_of_ble_eq_true rfl) dX3_parseReader_28 ?_
    obtain ⟨r6, s5, h7, k⟩ := k
    refine Z_callV (As := [.int r3]) (rest := []) hC h7 cvX3_101 ⟨3, rfl, zs_3, _, rfl, rfl⟩ rfl rfl (Nat.le_of_ble_eq_true rfl) dX3_parseReader_31 ?_
    refine Z_istore_n (V2 := [(2, .int r6), (0, .ref (ad 17 0)), (1, .int x1)]) hC dX3_parseReader_34 rfl (by decide) rfl ?_
    refine Z_aload_n hC dX3_parseReader_35 rfl rfl ?_
    refine Z_iconst (v := 1) hC dX3_parseReader_36 rfl ?_
    refine Z_bipush (v := 99) hC dX3_parseReader_37 rfl ?_
    obtain ⟨r9, s8, h10, k⟩ := k
    refine Z_callV (As := [.int 1, .int 99]) (rest := []) hC h10 cvX3_97 ⟨3, rfl, zs_3, _, rfl, rfl⟩ rfl rfl (Nat.le_of_ble_eq_true rfl) dX3_parseReader_39 ?_
    refine Z_istore_n (V2 := [(3, .int r9), (2, .int r6), (0, .ref (ad 17 0)), (1, .int x1)]) hC dX3_parseReader_42 rfl (by decide) rfl ?_
    refine Z_aload_n hC dX3_parseReader_43 rfl rfl ?_
    obtain ⟨s11, h12, k⟩ := k
    refine Z_callV (As := []) (rest := []) hC h12 cvX3_105 ⟨3, rfl, zs_3, _, rfl, rfl⟩ rfl rfl (Nat.le_of_ble_eq_true rfl) dX3_parseReader_44 ?_
    refine Z_aload_n hC dX3_parseReader_47 rfl rfl ?_
    refine Z_get (o := 17) (c := 3) (k := 5) (v := .ref (ad 3 0)) hC rfl zs_3 lkX3_21 rfl dX3_parseReader_48 ?_
    refine Z_iload_n hC dX3_parseReader_51 rfl rfl ?_
    refine Z_iload_n hC dX3_parseReader_52 rfl rfl ?_
    refine Z_iload_n hC dX3_parseReader_53 rfl rfl ?_
    obtain ⟨s13, h14, k⟩ := k
    refine Z_callV (As := [.int x1, .int r6, .int r9]) (rest := []) hC h14 cvX3_115 ⟨0, rfl, zs_0, _, rfl, rfl⟩ rfl rfl (Nat.le_of_ble_eq_true rfl) dX3_parseReader_54 ?_
    exact Z_vret hC dX3_parseReader_57 k.1 k.2
  · have k := k.2 c1
    refine Z_aload_n hC dX3_parseReader_11 rfl rfl ?_
    refine Z_iconst (v := 5) hC dX3_parseReader_12 rfl ?_
    refine Z_aload_n hC dX3_parseReader_13 rfl rfl ?_
    refine Z_get (o := 17) (c := 3) (k := 4) (v := .ref (ad 16 0)) hC rfl zs_3 lkX3_12 rfl dX3_parseReader_14 ?_
    refine Z_get (o := 16) (c := 7) (k := 3) (v := .int ((s 16).1 3)) hC rfl zs_7 lkX3_65 rfl dX3_parseReader_17 ?_
    obtain ⟨s15, h16, k⟩ := k
    refine Z_callV (As := [.int 5, .int ((s 16).1 3)]) (rest := []) hC h16 cvX3_58 ⟨3, rfl, zs_3, _, rfl, rfl⟩ rfl rfl (Nat.le_of_ble_eq_true rfl) dX3_parseReader_20 ?_
    refine Z_aload_n hC dX3_parseReader_23 rfl rfl ?_
    refine Z_aload_n hC dX3_parseReader_24 rfl rfl ?_
    refine Z_iconst (v := 0) hC dX3_parseReader_25 rfl ?_
    refine Z_bipush (v := 9) hC dX3_parseReader_26 rfl ?_
    obtain ⟨r18, s17, h19, k⟩ := k
    refine Z_callV (As := [.int 0, .int 9]) (rest := [.ref (ad 17 0)]) hC h19 cvX3_97 ⟨3, rfl, zs_3, _, rfl, rfl⟩ rfl rfl (Nat.le_of_ble_eq_true rfl) dX3_parseReader_28 ?_
    obtain ⟨r21, s20, h22, k⟩ := k
    refine Z_callV (As := [.int r18]) (rest := []) hC h22 cvX3_101 ⟨3, rfl, zs_3, _, rfl, rfl⟩ rfl rfl (Nat.le_of_ble_eq_true rfl) dX3_parseReader_31 ?_
    refine Z_istore_n (V2 := [(2, .int r21), (0, .ref (ad 17 0)), (1, .int x1)]) hC dX3_parseReader_34 rfl (by decide) rfl ?_
    refine Z_aload_n hC dX3_parseReader_35 rfl rfl ?_
    refine Z_iconst (v := 1) hC dX3_parseReader_36 rfl ?_
    refine Z_bipush (v := 99) hC dX3_parseReader_37 rfl ?_
    obtain ⟨r24, s23, h25, k⟩ := k
    refine Z_callV (As := [.int 1, .int 99]) (rest := []) hC h25 cvX3_97 ⟨3, rfl, zs_3, _, rfl, rfl⟩ rfl rfl (Nat.le_of_ble_eq_true rfl) dX3_parseReader_39 ?_
    refine Z_istore_n (V2 := [(3, .int r24), (2, .int r21), (0, .ref (ad 17 0)), (1, .int x1)]) hC dX3_parseReader_42 rfl (by decide) rfl ?_
    refine Z_aload_n hC dX3_parseReader_43 rfl rfl ?_
    obtain ⟨s26, h27, k⟩ := k
    refine Z_callV (As := []) (rest := []) hC h27 cvX3_105 ⟨3, rfl, zs_3, _, rfl, rfl⟩ rfl rfl (Nat.le_of_ble_eq_true rfl) dX3_parseReader_44 ?_
    refine Z_aload_n hC dX3_parseReader_47 rfl rfl ?_
    refine Z_get (o := 17) (c := 3) (k := 5) (v := .ref (ad 3 0)) hC rfl zs_3 lkX3_21 rfl dX3_parseReader_48 ?_
    refine Z_iload_n hC dX3_parseReader_51 rfl rfl ?_
    refine Z_iload_n hC dX3_parseReader_52 rfl rfl ?_
    refine Z_iload_n hC dX3_parseReader_53 rfl rfl ?_
    obtain ⟨s28, h29, k⟩ := k
    refine Z_callV (As := [.int x1, .int r21, .int r24]) (rest := []) hC h29 cvX3_115 ⟨0, rfl, zs_0, _, rfl, rfl⟩ rfl rfl (Nat.le_of_ble_eq_true rfl) dX3_parseReader_54 ?_
    exact Z_vret hC dX3_parseReader_57 k.1 k.2
theorem eX3_parseReader {x1 : Int32} {X : Option Value} {Y : ZS} {s : ZS} (k : ((((s 3).1 4) < 4 → (∃ (r3 : Int32) (s2 : ZS), Ev l ad D ia d mX3_takeNumber [.ref (ad 17 0), .int 0, .int 9] s (some (.int r3)) s2 ∧ (∃ (r6 : Int32) (s5 : ZS), Ev l ad D ia d mX3_bookTold [.ref (ad 17 0), .int r3] s2 (some (.int r6)) s5 ∧ (∃ (r9 : Int32) (s8 : ZS), Ev l ad D ia d mX3_takeNumber [.ref (ad 17 0), .int 1, .int 99] s5 (some (.int r9)) s8 ∧ (∃ s11 : ZS, Ev l ad D ia d mX3_takeStop [.ref (ad 17 0)] s8 none s11 ∧ (∃ s13 : ZS, Ev l ad D ia d mX0_addReader [.ref (ad 3 0), .int x1, .int r6, .int r9] s11 none s13 ∧ (X = none ∧ Y = s13))))))) ∧ (¬ ((s 3).1 4) < 4 → (∃ s15 : ZS, Ev l ad D ia d mX3_refuse [.ref (ad 17 0), .int 5, .int ((s 16).1 3)] s none s15 ∧ (∃ (r18 : Int32) (s17 : ZS), Ev l ad D ia d mX3_takeNumber [.ref (ad 17 0), .int 0, .int 9] s15 (some (.int r18)) s17 ∧ (∃ (r21 : Int32) (s20 : ZS), Ev l ad D ia d mX3_bookTold [.ref (ad 17 0), .int r18] s17 (some (.int r21)) s20 ∧ (∃ (r24 : Int32) (s23 : ZS), Ev l ad D ia d mX3_takeNumber [.ref (ad 17 0), .int 1, .int 99] s20 (some (.int r24)) s23 ∧ (∃ s26 : ZS, Ev l ad D ia d mX3_takeStop [.ref (ad 17 0)] s23 none s26 ∧ (∃ s28 : ZS, Ev l ad D ia d mX0_addReader [.ref (ad 3 0), .int x1, .int r21, .int r24] s26 none s28 ∧ (X = none ∧ Y = s28)))))))))) : Ev l ad D ia (d + 1) mX3_parseReader [.ref (ad 17 0), .int x1] s X Y :=
  Ev.start (by decide +kernel) (Nat.le_of_ble_eq_true rfl) (fun C hC => bX3_parseReader_0  hC k)
set_option maxRecDepth 100000 in
set_option maxHeartbeats 4000000 in
theorem bX3_parseSteps_0 {C : ZC} {X : Option Value} {Y : ZS} {s : ZS} (hC : Zok ad D ia C (d + 1) cX3_parseSteps 1 RX3 none) (k : ((((s 17).1 3) = 0 → (∀ s2 : ZS, s2 = stI s 17 3 1 → (∃ (r4 : Int32) (s3 : ZS), Ev l ad D ia d mX3_takeNumber [.ref (ad 17 0), .int 0, .int 7] s2 (some (.int r4)) s3 ∧ (∀ s6 : ZS, s6 = stI s3 3 9 r4 → (∃ s7 : ZS, Ev l ad D ia d mX3_takeStop [.ref (ad 17 0)] s6 none s7 ∧ (X = none ∧ Y = s7)))))) ∧ (¬ ((s 17).1 3) = 0 → (∃ s9 : ZS, Ev l ad D ia d mX3_refuse [.ref (ad 17 0), .int 4, .int ((s 16).1 3)] s none s9 ∧ (∀ s11 : ZS, s11 = stI s9 17 3 1 → (∃ (r13 : Int32) (s12 : ZS), Ev l ad D ia d mX3_takeNumber [.ref (ad 17 0), .int 0, .int 7] s11 (some (.int r13)) s12 ∧ (∀ s15 : ZS, s15 = stI s12 3 9 r13 → (∃ s16 : ZS, Ev l ad D ia d mX3_takeStop [.ref (ad 17 0)] s15 none s16 ∧ (X = none ∧ Y = s16))))))))) : Z l ad D ia C X Y 0 [(0, .ref (ad 17 0))] [] s := by
  refine Z_aload_n hC dX3_parseSteps_0 rfl rfl ?_
  refine Z_get (o := 17) (c := 3) (k := 3) (v := .int ((s 17).1 3)) hC rfl zs_3 lkX3_35 rfl dX3_parseSteps_1 ?_
  refine Z_if_eq (tgt := 19) hC dX3_parseSteps_4 (by decide) (fun c1 => ?_) (fun c1 => ?_)
  · have k := k.1 c1
    refine Z_aload_n hC dX3_parseSteps_19 rfl rfl ?_
    refine Z_iconst (v := 1) hC dX3_parseSteps_20 rfl ?_
    refine Z_putI (o := 17) (k := 3) hC rfl zs_3 pkX3_35 rfl rfl (hsX3_3 _ _ _) dX3_parseSteps_21 (fun s2 es2 => ?_)
    have k := k s2 es2
    refine Z_aload_n hC dX3_parseSteps_24 rfl rfl ?_
    refine Z_get (o := 17) (c := 3) (k := 5) (v := .ref (ad 3 0)) hC rfl zs_3 lkX3_21 rfl dX3_parseSteps_25 ?_
    refine Z_aload_n hC dX3_parseSteps_28 rfl rfl ?_
    refine Z_iconst (v := 0) hC dX3_parseSteps_29 rfl ?_
    refine Z_bipush (v := 7) hC dX3_parseSteps_30 rfl ?_
    obtain ⟨r4, s3, h5, k⟩ := k
    refine Z_callV (As := [.int 0, .int 7]) (rest := [.ref (ad 3 0)]) hC h5 cvX3_97 ⟨3, rfl, zs_3, _, rfl, rfl⟩ rfl rfl (Nat.le_of_ble_eq_true rfl) dX3_parseSteps_32 ?_
    refine Z_putI (o := 3) (k := 9) hC rfl zs_0 pkX3_118 rfl rfl (hsX0_9 _ _ _) dX3_parseSteps_35 (fun s6 es6 => ?_)
    have k := k s6 es6
    refine Z_aload_n hC dX3_parseSteps_38 rfl rfl ?_
    obtain ⟨s7, h8, k⟩ := k
    refine Z_callV (As := []) (rest := []) hC h8 cvX3_105 ⟨3, rfl, zs_3, _, rfl, rfl⟩ rfl rfl (Nat.le_of_ble_eq_true rfl) dX3_parseSteps_39 ?_
    exact Z_vret hC dX3_parseSteps_42 k.1 k.2
  · have k := k.2 c1
    refine Z_aload_n hC dX3_parseSteps_7 rfl rfl ?_
    refine Z_iconst (v := 4) hC dX3_parseSteps_8 rfl ?_
    refine Z_aload_n hC dX3_parseSteps_9 rfl rfl ?_
    refine Z_get (o := 17) (c := 3) (k := 4) (v := .ref (ad 16 0)) hC rfl zs_3 lkX3_12 rfl dX3_parseSteps_10 ?_
    refine Z_get (o := 16) (c := 7) (k := 3) (v := .int ((s 16).1 3)) hC rfl zs_7 lkX3_65 rfl dX3_parseSteps_13 ?_
    obtain ⟨s9, h10, k⟩ := k
    refine Z_callV (As := [.int 4, .int ((s 16).1 3)]) (rest := []) hC h10 cvX3_58 ⟨3, rfl, zs_3, _, rfl, rfl⟩ rfl rfl (Nat.le_of_ble_eq_true rfl) dX3_parseSteps_16 ?_
    refine Z_aload_n hC dX3_parseSteps_19 rfl rfl ?_
    refine Z_iconst (v := 1) hC dX3_parseSteps_20 rfl ?_
    refine Z_putI (o := 17) (k := 3) hC rfl zs_3 pkX3_35 rfl rfl (hsX3_3 _ _ _) dX3_parseSteps_21 (fun s11 es11 => ?_)
    have k := k s11 es11
    refine Z_aload_n hC dX3_parseSteps_24 rfl rfl ?_
    refine Z_get (o := 17) (c := 3) (k := 5) (v := .ref (ad 3 0)) hC rfl zs_3 lkX3_21 rfl dX3_parseSteps_25 ?_
    refine Z_aload_n hC dX3_parseSteps_28 rfl rfl ?_
    refine Z_iconst (v := 0) hC dX3_parseSteps_29 rfl ?_
    refine Z_bipush (v := 7) hC dX3_parseSteps_30 rfl ?_
    obtain ⟨r13, s12, h14, k⟩ := k
    refine Z_callV (As := [.int 0, .int 7]) (rest := [.ref (ad 3 0)]) hC h14 cvX3_97 ⟨3, rfl, zs_3, _, rfl, rfl⟩ rfl rfl (Nat.le_of_ble_eq_true rfl) dX3_parseSteps_32 ?_
    refine Z_putI (o := 3) (k := 9) hC rfl zs_0 pkX3_118 rfl rfl (hsX0_9 _ _ _) dX3_parseSteps_35 (fun s15 es15 => ?_)
    have k := k s15 es15
    refine Z_aload_n hC dX3_parseSteps_38 rfl rfl ?_
    obtain ⟨s16, h17, k⟩ := k
    refine Z_callV (As := []) (rest := []) hC h17 cvX3_105 ⟨3, rfl, zs_3, _, rfl, rfl⟩ rfl rfl (Nat.le_of_ble_eq_true rfl) dX3_parseSteps_39 ?_
    exact Z_vret hC dX3_parseSteps_42 k.1 k.2
theorem eX3_parseSteps {X : Option Value} {Y : ZS} {s : ZS} (k : ((((s 17).1 3) = 0 → (∀ s2 : ZS, s2 = stI s 17 3 1 → (∃ (r4 : Int32) (s3 : ZS), Ev l ad D ia d mX3_takeNumber [.ref (ad 17 0), .int 0, .int 7] s2 (some (.int r4)) s3 ∧ (∀ s6 : ZS, s6 = stI s3 3 9 r4 → (∃ s7 : ZS, Ev l ad D ia d mX3_takeStop [.ref (ad 17 0)] s6 none s7 ∧ (X = none ∧ Y = s7)))))) ∧ (¬ ((s 17).1 3) = 0 → (∃ s9 : ZS, Ev l ad D ia d mX3_refuse [.ref (ad 17 0), .int 4, .int ((s 16).1 3)] s none s9 ∧ (∀ s11 : ZS, s11 = stI s9 17 3 1 → (∃ (r13 : Int32) (s12 : ZS), Ev l ad D ia d mX3_takeNumber [.ref (ad 17 0), .int 0, .int 7] s11 (some (.int r13)) s12 ∧ (∀ s15 : ZS, s15 = stI s12 3 9 r13 → (∃ s16 : ZS, Ev l ad D ia d mX3_takeStop [.ref (ad 17 0)] s15 none s16 ∧ (X = none ∧ Y = s16))))))))) : Ev l ad D ia (d + 1) mX3_parseSteps [.ref (ad 17 0)] s X Y :=
  Ev.start (by decide +kernel) (Nat.le_of_ble_eq_true rfl) (fun C hC => bX3_parseSteps_0  hC k)
set_option maxRecDepth 100000 in
set_option maxHeartbeats 4000000 in
theorem bX3_takeNumber_0 {x1 : Int32} {x2 : Int32} {C : ZC} {X : Option Value} {Y : ZS} {s : ZS} (hC : Zok ad D ia C (d + 1) cX3_takeNumber 4 RX3 (some .int)) (k : (∃ s1 : ZS, Ev l ad D ia d mX3_takeToken [.ref (ad 17 0)] s none s1 ∧ ((((s1 17).1 0) = 0 → ((((s1 16).1 2) = 2 → (∃ (r6 : Int32) (s5 : ZS), Ev l ad D ia d mX7_valueOfNumber [.ref (ad 16 0)] s1 (some (.int r6)) s5 ∧ (∃ (r9 : Int32) (s8 : ZS), Ev l ad D ia d mX8_outside [.int r6, .int x1, .int x2] s5 (some (.int r9)) s8 ∧ ((r9 = 0 → (X = some (.int r6) ∧ Y = s8)) ∧ (¬ r9 = 0 → (∃ s12 : ZS, Ev l ad D ia d mX3_refuse [.ref (ad 17 0), .int 3, .int ((s8 16).1 3)] s8 none s12 ∧ (X = some (.int x1) ∧ Y = s12))))))) ∧ (¬ ((s1 16).1 2) = 2 → (∃ s14 : ZS, Ev l ad D ia d mX3_refuse [.ref (ad 17 0), .int 2, .int ((s1 16).1 3)] s1 none s14 ∧ (X = some (.int x1) ∧ Y = s14))))) ∧ (¬ ((s1 17).1 0) = 0 → (X = some (.int x1) ∧ Y = s1))))) : Z l ad D ia C X Y 0 [(0, .ref (ad 17 0)), (1, .int x1), (2, .int x2)] [] s := by
  refine Z_aload_n hC dX3_takeNumber_0 rfl rfl ?_
  obtain ⟨s1, h2, k⟩ := k
  refine Z_callV (As := []) (rest := []) hC h2 cvX3_45 ⟨3, rfl, zs_3, _, rfl, rfl⟩ rfl rfl (Nat.le_of_ble_eq_true rfl) dX3_takeNumber_1 ?_
  refine Z_aload_n hC dX3_takeNumber_4 rfl rfl ?_
  refine Z_get (o := 17) (c := 3) (k := 0) (v := .int ((s1 17).1 0)) hC rfl zs_3 lkX3_25 rfl dX3_takeNumber_5 ?_
  refine Z_if_eq (tgt := 13) hC dX3_takeNumber_8 (by decide) (fun c3 => ?_) (fun c3 => ?_)
  · have k := k.1 c3
    refine Z_aload_n hC dX3_takeNumber_13 rfl rfl ?_
    refine Z_get (o := 17) (c := 3) (k := 4) (v := .ref (ad 16 0)) hC rfl zs_3 lkX3_12 rfl dX3_takeNumber_14 ?_
    refine Z_get (o := 16) (c := 7) (k := 2) (v := .int ((s1 16).1 2)) hC rfl zs_7 lkX3_48 rfl dX3_takeNumber_17 ?_
    refine Z_iconst (v := 2) hC dX3_takeNumber_20 rfl ?_
    refine Z_icmp_eq (tgt := 38) hC dX3_takeNumber_21 (by decide) (fun c4 => ?_) (fun c4 => ?_)
    · have k := k.1 c4
      refine Z_aload_n hC dX3_takeNumber_38 rfl rfl ?_
      refine Z_get (o := 17) (c := 3) (k := 4) (v := .ref (ad 16 0)) hC rfl zs_3 lkX3_12 rfl dX3_takeNumber_39 ?_
      obtain ⟨r6, s5, h7, k⟩ := k
      refine Z_callV (As := []) (rest := []) hC h7 cvX3_121 ⟨7, rfl, zs_7, _, rfl, rfl⟩ rfl rfl (Nat.le_of_ble_eq_true rfl) dX3_takeNumber_42 ?_
      refine Z_istore_n (V2 := [(3, .int r6), (0, .ref (ad 17 0)), (1, .int x1), (2, .int x2)]) hC dX3_takeNumber_45 rfl (by decide) rfl ?_
      refine Z_iload_n hC dX3_takeNumber_46 rfl rfl ?_
      refine Z_iload_n hC dX3_takeNumber_47 rfl rfl ?_
      refine Z_iload_n hC dX3_takeNumber_48 rfl rfl ?_
      obtain ⟨r9, s8, h10, k⟩ := k
      refine Z_callN (As := [.int r6, .int x1, .int x2]) (rest := []) hC h10 csX3_125 rfl rfl (Nat.le_of_ble_eq_true rfl) dX3_takeNumber_49 ?_
      refine Z_if_eq (tgt := 69) hC dX3_takeNumber_52 (by decide) (fun c11 => ?_) (fun c11 => ?_)
      · have k := k.1 c11
        refine Z_iload_n hC dX3_takeNumber_69 rfl rfl ?_
        exact Z_iret hC dX3_takeNumber_70 k.1 k.2
      · have k := k.2 c11
        refine Z_aload_n hC dX3_takeNumber_55 rfl rfl ?_
        refine Z_iconst (v := 3) hC dX3_takeNumber_56 rfl ?_
        refine Z_aload_n hC dX3_takeNumber_57 rfl rfl ?_
        refine Z_get (o := 17) (c := 3) (k := 4) (v := .ref (ad 16 0)) hC rfl zs_3 lkX3_12 rfl dX3_takeNumber_58 ?_
        refine Z_get (o := 16) (c := 7) (k := 3) (v := .int ((s8 16).1 3)) hC rfl zs_7 lkX3_65 rfl dX3_takeNumber_61 ?_
        obtain ⟨s12, h13, k⟩ := k
        refine Z_callV (As := [.int 3, .int ((s8 16).1 3)]) (rest := []) hC h13 cvX3_58 ⟨3, rfl, zs_3, _, rfl, rfl⟩ rfl rfl (Nat.le_of_ble_eq_true rfl) dX3_takeNumber_64 ?_
        refine Z_iload_n hC dX3_takeNumber_67 rfl rfl ?_
        exact Z_iret hC dX3_takeNumber_68 k.1 k.2
    · have k := k.2 c4
      refine Z_aload_n hC dX3_takeNumber_24 rfl rfl ?_
      refine Z_iconst (v := 2) hC dX3_takeNumber_25 rfl ?_
      refine Z_aload_n hC dX3_takeNumber_26 rfl rfl ?_
      refine Z_get (o := 17) (c := 3) (k := 4) (v := .ref (ad 16 0)) hC rfl zs_3 lkX3_12 rfl dX3_takeNumber_27 ?_
      refine Z_get (o := 16) (c := 7) (k := 3) (v := .int ((s1 16).1 3)) hC rfl zs_7 lkX3_65 rfl dX3_takeNumber_30 ?_
      obtain ⟨s14, h15, k⟩ := k
      refine Z_callV (As := [.int 2, .int ((s1 16).1 3)]) (rest := []) hC h15 cvX3_58 ⟨3, rfl, zs_3, _, rfl, rfl⟩ rfl rfl (Nat.le_of_ble_eq_true rfl) dX3_takeNumber_33 ?_
      refine Z_iload_n hC dX3_takeNumber_36 rfl rfl ?_
      exact Z_iret hC dX3_takeNumber_37 k.1 k.2
  · have k := k.2 c3
    refine Z_iload_n hC dX3_takeNumber_11 rfl rfl ?_
    exact Z_iret hC dX3_takeNumber_12 k.1 k.2
theorem eX3_takeNumber {x1 : Int32} {x2 : Int32} {X : Option Value} {Y : ZS} {s : ZS} (k : (∃ s1 : ZS, Ev l ad D ia d mX3_takeToken [.ref (ad 17 0)] s none s1 ∧ ((((s1 17).1 0) = 0 → ((((s1 16).1 2) = 2 → (∃ (r6 : Int32) (s5 : ZS), Ev l ad D ia d mX7_valueOfNumber [.ref (ad 16 0)] s1 (some (.int r6)) s5 ∧ (∃ (r9 : Int32) (s8 : ZS), Ev l ad D ia d mX8_outside [.int r6, .int x1, .int x2] s5 (some (.int r9)) s8 ∧ ((r9 = 0 → (X = some (.int r6) ∧ Y = s8)) ∧ (¬ r9 = 0 → (∃ s12 : ZS, Ev l ad D ia d mX3_refuse [.ref (ad 17 0), .int 3, .int ((s8 16).1 3)] s8 none s12 ∧ (X = some (.int x1) ∧ Y = s12))))))) ∧ (¬ ((s1 16).1 2) = 2 → (∃ s14 : ZS, Ev l ad D ia d mX3_refuse [.ref (ad 17 0), .int 2, .int ((s1 16).1 3)] s1 none s14 ∧ (X = some (.int x1) ∧ Y = s14))))) ∧ (¬ ((s1 17).1 0) = 0 → (X = some (.int x1) ∧ Y = s1))))) : Ev l ad D ia (d + 1) mX3_takeNumber [.ref (ad 17 0), .int x1, .int x2] s X Y :=
  Ev.start (by decide +kernel) (Nat.le_of_ble_eq_true rfl) (fun C hC => bX3_takeNumber_0  hC k)
set_option maxRecDepth 100000 in
set_option maxHeartbeats 4000000 in
theorem bX3_bookTold_0 {x1 : Int32} {C : ZC} {X : Option Value} {Y : ZS} {s : ZS} (hC : Zok ad D ia C (d + 1) cX3_bookTold 2 RX3 (some .int)) (k : ((¬ x1 = 9 → ((x1 < 8 → (X = some (.int x1) ∧ Y = s)) ∧ (¬ x1 < 8 → (∃ s3 : ZS, Ev l ad D ia d mX3_refuse [.ref (ad 17 0), .int 3, .int ((s 16).1 3)] s none s3 ∧ (X = some (.int x1) ∧ Y = s3))))) ∧ (x1 = 9 → (X = some (.int ((-4))) ∧ Y = s)))) : Z l ad D ia C X Y 0 [(0, .ref (ad 17 0)), (1, .int x1)] [] s := by
  refine Z_iload_n hC dX3_bookTold_0 rfl rfl ?_
  refine Z_bipush (v := 9) hC dX3_bookTold_1 rfl ?_
  refine Z_icmp_ne (tgt := 9) hC dX3_bookTold_3 (by decide) (fun c1 => ?_) (fun c1 => ?_)
  · have k := k.1 c1
    refine Z_iload_n hC dX3_bookTold_9 rfl rfl ?_
    refine Z_bipush (v := 8) hC dX3_bookTold_10 rfl ?_
    refine Z_icmp_lt (tgt := 27) hC dX3_bookTold_12 (by decide) (fun c2 => ?_) (fun c2 => ?_)
    · have k := k.1 c2
      refine Z_iload_n hC dX3_bookTold_27 rfl rfl ?_
      exact Z_iret hC dX3_bookTold_28 k.1 k.2
    · have k := k.2 c2
      refine Z_aload_n hC dX3_bookTold_15 rfl rfl ?_
      refine Z_iconst (v := 3) hC dX3_bookTold_16 rfl ?_
      refine Z_aload_n hC dX3_bookTold_17 rfl rfl ?_
      refine Z_get (o := 17) (c := 3) (k := 4) (v := .ref (ad 16 0)) hC rfl zs_3 lkX3_12 rfl dX3_bookTold_18 ?_
      refine Z_get (o := 16) (c := 7) (k := 3) (v := .int ((s 16).1 3)) hC rfl zs_7 lkX3_65 rfl dX3_bookTold_21 ?_
      obtain ⟨s3, h4, k⟩ := k
      refine Z_callV (As := [.int 3, .int ((s 16).1 3)]) (rest := []) hC h4 cvX3_58 ⟨3, rfl, zs_3, _, rfl, rfl⟩ rfl rfl (Nat.le_of_ble_eq_true rfl) dX3_bookTold_24 ?_
      refine Z_iload_n hC dX3_bookTold_27 rfl rfl ?_
      exact Z_iret hC dX3_bookTold_28 k.1 k.2
  · have k := k.2 c1
    refine Z_bipush (v := (-4)) hC dX3_bookTold_6 rfl ?_
    exact Z_iret hC dX3_bookTold_8 k.1 k.2
theorem eX3_bookTold {x1 : Int32} {X : Option Value} {Y : ZS} {s : ZS} (k : ((¬ x1 = 9 → ((x1 < 8 → (X = some (.int x1) ∧ Y = s)) ∧ (¬ x1 < 8 → (∃ s3 : ZS, Ev l ad D ia d mX3_refuse [.ref (ad 17 0), .int 3, .int ((s 16).1 3)] s none s3 ∧ (X = some (.int x1) ∧ Y = s3))))) ∧ (x1 = 9 → (X = some (.int ((-4))) ∧ Y = s)))) : Ev l ad D ia (d + 1) mX3_bookTold [.ref (ad 17 0), .int x1] s X Y :=
  Ev.start (by decide +kernel) (Nat.le_of_ble_eq_true rfl) (fun C hC => bX3_bookTold_0  hC k)
set_option maxRecDepth 100000 in
set_option maxHeartbeats 4000000 in
theorem bX3_takeStop_0 {C : ZC} {X : Option Value} {Y : ZS} {s : ZS} (hC : Zok ad D ia C (d + 1) cX3_takeStop 1 RX3 none) (k : (∃ s1 : ZS, Ev l ad D ia d mX3_takeToken [.ref (ad 17 0)] s none s1 ∧ ((¬ ((s1 17).1 0) = 0 → (X = none ∧ Y = s1)) ∧ (((s1 17).1 0) = 0 → ((((s1 16).1 2) = 3 → (X = none ∧ Y = s1)) ∧ (¬ ((s1 16).1 2) = 3 → (∃ s5 : ZS, Ev l ad D ia d mX3_refuse [.ref (ad 17 0), .int 2, .int ((s1 16).1 3)] s1 none s5 ∧ (X = none ∧ Y = s5)))))))) : Z l ad D ia C X Y 0 [(0, .ref (ad 17 0))] [] s := by
  refine Z_aload_n hC dX3_takeStop_0 rfl rfl ?_
  obtain ⟨s1, h2, k⟩ := k
  refine Z_callV (As := []) (rest := []) hC h2 cvX3_45 ⟨3, rfl, zs_3, _, rfl, rfl⟩ rfl rfl (Nat.le_of_ble_eq_true rfl) dX3_takeStop_1 ?_
  refine Z_aload_n hC dX3_takeStop_4 rfl rfl ?_
  refine Z_get (o := 17) (c := 3) (k := 0) (v := .int ((s1 17).1 0)) hC rfl zs_3 lkX3_25 rfl dX3_takeStop_5 ?_
  refine Z_if_ne (tgt := 34) hC dX3_takeStop_8 (by decide) (fun c3 => ?_) (fun c3 => ?_)
  · have k := k.1 c3
    exact Z_vret hC dX3_takeStop_34 k.1 k.2
  · have k := k.2 c3
    refine Z_aload_n hC dX3_takeStop_11 rfl rfl ?_
    refine Z_get (o := 17) (c := 3) (k := 4) (v := .ref (ad 16 0)) hC rfl zs_3 lkX3_12 rfl dX3_takeStop_12 ?_
    refine Z_get (o := 16) (c := 7) (k := 2) (v := .int ((s1 16).1 2)) hC rfl zs_7 lkX3_48 rfl dX3_takeStop_15 ?_
    refine Z_iconst (v := 3) hC dX3_takeStop_18 rfl ?_
    refine Z_icmp_eq (tgt := 34) hC dX3_takeStop_19 (by decide) (fun c4 => ?_) (fun c4 => ?_)
    · have k := k.1 c4
      exact Z_vret hC dX3_takeStop_34 k.1 k.2
    · have k := k.2 c4
      refine Z_aload_n hC dX3_takeStop_22 rfl rfl ?_
      refine Z_iconst (v := 2) hC dX3_takeStop_23 rfl ?_
      refine Z_aload_n hC dX3_takeStop_24 rfl rfl ?_
      refine Z_get (o := 17) (c := 3) (k := 4) (v := .ref (ad 16 0)) hC rfl zs_3 lkX3_12 rfl dX3_takeStop_25 ?_
      refine Z_get (o := 16) (c := 7) (k := 3) (v := .int ((s1 16).1 3)) hC rfl zs_7 lkX3_65 rfl dX3_takeStop_28 ?_
      obtain ⟨s5, h6, k⟩ := k
      refine Z_callV (As := [.int 2, .int ((s1 16).1 3)]) (rest := []) hC h6 cvX3_58 ⟨3, rfl, zs_3, _, rfl, rfl⟩ rfl rfl (Nat.le_of_ble_eq_true rfl) dX3_takeStop_31 ?_
      exact Z_vret hC dX3_takeStop_34 k.1 k.2
theorem eX3_takeStop {X : Option Value} {Y : ZS} {s : ZS} (k : (∃ s1 : ZS, Ev l ad D ia d mX3_takeToken [.ref (ad 17 0)] s none s1 ∧ ((¬ ((s1 17).1 0) = 0 → (X = none ∧ Y = s1)) ∧ (((s1 17).1 0) = 0 → ((((s1 16).1 2) = 3 → (X = none ∧ Y = s1)) ∧ (¬ ((s1 16).1 2) = 3 → (∃ s5 : ZS, Ev l ad D ia d mX3_refuse [.ref (ad 17 0), .int 2, .int ((s1 16).1 3)] s1 none s5 ∧ (X = none ∧ Y = s5)))))))) : Ev l ad D ia (d + 1) mX3_takeStop [.ref (ad 17 0)] s X Y :=
  Ev.start (by decide +kernel) (Nat.le_of_ble_eq_true rfl) (fun C hC => bX3_takeStop_0  hC k)
set_option maxRecDepth 100000 in
set_option maxHeartbeats 4000000 in
theorem bX3_namesMissingBook_0 {C : ZC} {X : Option Value} {Y : ZS} {s : ZS} (hC : Zok ad D ia C d cX3_namesMissingBook 2 RX3 (some .boolean)) (k : Z l ad D ia C X Y 2 [(0, .ref (ad 17 0)), (1, .int 0)] [] s) : Z l ad D ia C X Y 0 [(0, .ref (ad 17 0))] [] s := by
  refine Z_iconst (v := 0) hC dX3_namesMissingBook_0 rfl ?_
  refine Z_istore_n (V2 := [(1, .int 0), (0, .ref (ad 17 0))]) hC dX3_namesMissingBook_1 rfl (by decide) rfl ?_
  exact Z_pick [1, 0] rfl k
theorem eX3_namesMissingBook {X : Option Value} {Y : ZS} {s : ZS} (k : ∀ C : ZC, Zok ad D ia C d cX3_namesMissingBook 2 RX3 (some .boolean) → Z l ad D ia C X Y 2 [(0, .ref (ad 17 0)), (1, .int 0)] [] s) : Ev l ad D ia d mX3_namesMissingBook [.ref (ad 17 0)] s X Y :=
  Ev.start (by decide +kernel) (Nat.le_of_ble_eq_true rfl) (fun C hC => bX3_namesMissingBook_0  hC (k C hC))
set_option maxRecDepth 100000 in
set_option maxHeartbeats 4000000 in
theorem bX3_namesMissingBook_2 {x1 : Int32} {C : ZC} {X : Option Value} {Y : ZS} {s : ZS} (hC : Zok ad D ia C d cX3_namesMissingBook 2 RX3 (some .boolean)) (k : ((((s 3).1 0) ≤ x1 → Z l ad D ia C X Y 42 [(0, .ref (ad 17 0)), (1, .int 0)] [] s) ∧ (¬ ((s 3).1 0) ≤ x1 → (vp_in x1 8 ∧ ((((s 3).2.2 3 x1.toNatClampNeg) < ((s 3).1 0) → Z l ad D ia C X Y 2 [(0, .ref (ad 17 0)), (1, .int (x1 + 1))] [] s) ∧ (¬ ((s 3).2.2 3 x1.toNatClampNeg) < ((s 3).1 0) → (X = some (.int 1) ∧ Y = s))))))) : Z l ad D ia C X Y 2 [(0, .ref (ad 17 0)), (1, .int x1)] [] s := by
  refine Z_iload_n hC dX3_namesMissingBook_2 rfl rfl ?_
  refine Z_aload_n hC dX3_namesMissingBook_3 rfl rfl ?_
  refine Z_get (o := 17) (c := 3) (k := 5) (v := .ref (ad 3 0)) hC rfl zs_3 lkX3_21 rfl dX3_namesMissingBook_4 ?_
  refine Z_get (o := 3) (c := 0) (k := 0) (v := .int ((s 3).1 0)) hC rfl zs_0 lkX3_94 rfl dX3_namesMissingBook_7 ?_
  refine Z_icmp_ge (tgt := 40) hC dX3_namesMissingBook_10 (by decide) (fun c1 => ?_) (fun c1 => ?_)
  · have k := k.1 c1
    refine Z_iconst (v := 0) hC dX3_namesMissingBook_40 rfl ?_
    refine Z_istore_n (V2 := [(1, .int 0), (0, .ref (ad 17 0))]) hC dX3_namesMissingBook_41 rfl (by decide) rfl ?_
    exact Z_pick [1, 0] rfl k
  · have k := k.2 c1
    refine Z_aload_n hC dX3_namesMissingBook_13 rfl rfl ?_
    refine Z_get (o := 17) (c := 3) (k := 5) (v := .ref (ad 3 0)) hC rfl zs_3 lkX3_21 rfl dX3_namesMissingBook_14 ?_
    refine Z_get (o := 3) (c := 0) (k := 3) (v := .ref (ad 3 4)) hC rfl zs_0 lkX3_129 rfl dX3_namesMissingBook_17 ?_
    refine Z_iload_n hC dX3_namesMissingBook_20 rfl rfl ?_
    obtain ⟨h2, k⟩ := k
    refine Z_iald (o := 3) (k := 3) hC (zis_of rfl rfl) h2 dX3_namesMissingBook_21 ?_
    refine Z_aload_n hC dX3_namesMissingBook_22 rfl rfl ?_
    refine Z_get (o := 17) (c := 3) (k := 5) (v := .ref (ad 3 0)) hC rfl zs_3 lkX3_21 rfl dX3_namesMissingBook_23 ?_
    refine Z_get (o := 3) (c := 0) (k := 0) (v := .int ((s 3).1 0)) hC rfl zs_0 lkX3_94 rfl dX3_namesMissingBook_26 ?_
    refine Z_icmp_lt (tgt := 34) hC dX3_namesMissingBook_29 (by decide) (fun c3 => ?_) (fun c3 => ?_)
    · have k := k.1 c3
      refine Z_iinc (v := x1 + 1) (V2 := [(1, .int (x1 + 1)), (0, .ref (ad 17 0))]) hC dX3_namesMissingBook_34 rfl rfl (by decide) rfl ?_
      refine Z_goto (tgt := 2) hC dX3_namesMissingBook_37 (by decide) ?_
      exact Z_pick [1, 0] rfl k
    · have k := k.2 c3
      refine Z_iconst (v := 1) hC dX3_namesMissingBook_32 rfl ?_
      exact Z_zret hC dX3_namesMissingBook_33 rfl k.1 k.2
set_option maxRecDepth 100000 in
set_option maxHeartbeats 4000000 in
theorem bX3_namesMissingBook_42 {x1 : Int32} {C : ZC} {X : Option Value} {Y : ZS} {s : ZS} (hC : Zok ad D ia C d cX3_namesMissingBook 2 RX3 (some .boolean)) (k : ((((s 3).1 4) ≤ x1 → (X = some (.int 0) ∧ Y = s)) ∧ (¬ ((s 3).1 4) ≤ x1 → (vp_in x1 4 ∧ ((((s 3).2.2 6 x1.toNatClampNeg) < ((s 3).1 0) → Z l ad D ia C X Y 42 [(0, .ref (ad 17 0)), (1, .int (x1 + 1))] [] s) ∧ (¬ ((s 3).2.2 6 x1.toNatClampNeg) < ((s 3).1 0) → (X = some (.int 1) ∧ Y = s))))))) : Z l ad D ia C X Y 42 [(0, .ref (ad 17 0)), (1, .int x1)] [] s := by
  refine Z_iload_n hC dX3_namesMissingBook_42 rfl rfl ?_
  refine Z_aload_n hC dX3_namesMissingBook_43 rfl rfl ?_
  refine Z_get (o := 17) (c := 3) (k := 5) (v := .ref (ad 3 0)) hC rfl zs_3 lkX3_21 rfl dX3_namesMissingBook_44 ?_
  refine Z_get (o := 3) (c := 0) (k := 4) (v := .int ((s 3).1 4)) hC rfl zs_0 lkX3_112 rfl dX3_namesMissingBook_47 ?_
  refine Z_icmp_ge (tgt := 80) hC dX3_namesMissingBook_50 (by decide) (fun c1 => ?_) (fun c1 => ?_)
  · have k := k.1 c1
    refine Z_iconst (v := 0) hC dX3_namesMissingBook_80 rfl ?_
    exact Z_zret hC dX3_namesMissingBook_81 rfl k.1 k.2
  · have k := k.2 c1
    refine Z_aload_n hC dX3_namesMissingBook_53 rfl rfl ?_
    refine Z_get (o := 17) (c := 3) (k := 5) (v := .ref (ad 3 0)) hC rfl zs_3 lkX3_21 rfl dX3_namesMissingBook_54 ?_
    refine Z_get (o := 3) (c := 0) (k := 6) (v := .ref (ad 3 7)) hC rfl zs_0 lkX3_133 rfl dX3_namesMissingBook_57 ?_
    refine Z_iload_n hC dX3_namesMissingBook_60 rfl rfl ?_
    obtain ⟨h2, k⟩ := k
    refine Z_iald (o := 3) (k := 6) hC (zis_of rfl rfl) h2 dX3_namesMissingBook_61 ?_
    refine Z_aload_n hC dX3_namesMissingBook_62 rfl rfl ?_
    refine Z_get (o := 17) (c := 3) (k := 5) (v := .ref (ad 3 0)) hC rfl zs_3 lkX3_21 rfl dX3_namesMissingBook_63 ?_
    refine Z_get (o := 3) (c := 0) (k := 0) (v := .int ((s 3).1 0)) hC rfl zs_0 lkX3_94 rfl dX3_namesMissingBook_66 ?_
    refine Z_icmp_lt (tgt := 74) hC dX3_namesMissingBook_69 (by decide) (fun c3 => ?_) (fun c3 => ?_)
    · have k := k.1 c3
      refine Z_iinc (v := x1 + 1) (V2 := [(1, .int (x1 + 1)), (0, .ref (ad 17 0))]) hC dX3_namesMissingBook_74 rfl rfl (by decide) rfl ?_
      refine Z_goto (tgt := 42) hC dX3_namesMissingBook_77 (by decide) ?_
      exact Z_pick [1, 0] rfl k
    · have k := k.2 c3
      refine Z_iconst (v := 1) hC dX3_namesMissingBook_72 rfl ?_
      exact Z_zret hC dX3_namesMissingBook_73 rfl k.1 k.2
end ZL
