section ZL
variable {l : Launch} {ad : ZA} {D : va_G} {ia : Nat → ClassId} {d : Nat}
set_option maxRecDepth 100000 in
set_option maxHeartbeats 4000000 in
theorem bX9_in_0 {y0 : Int64} {y2 : Int64} {y4 : Int64} {C : ZC} {X : Option Value} {Y : ZS} {s : ZS} (hC : Zok ad D ia C d cX9_in 6 RX9 (some .boolean)) (k : (((lg_cmp y0 y2) < 0 → (X = some (.int 0) ∧ Y = s)) ∧ (¬ (lg_cmp y0 y2) < 0 → ((0 < (lg_cmp y0 y4) → (X = some (.int 0) ∧ Y = s)) ∧ (¬ 0 < (lg_cmp y0 y4) → (X = some (.int 1) ∧ Y = s)))))) : Z l ad D ia C X Y 0 [(0, .long y0), (2, .long y2), (4, .long y4)] [] s := by
  refine Z_lload_n hC dX9_in_0 rfl rfl ?_
  refine Z_lload_n hC dX9_in_1 rfl rfl ?_
  refine Z_lcmp hC dX9_in_2 ?_
  refine Z_if_lt (tgt := 17) hC dX9_in_3 (by decide) (fun c1 => ?_) (fun c1 => ?_)
  · have k := k.1 c1
    refine Z_iconst (v := 0) hC dX9_in_17 rfl ?_
    exact Z_zret hC dX9_in_18 rfl k.1 k.2
  · have k := k.2 c1
    refine Z_lload_n hC dX9_in_6 rfl rfl ?_
    refine Z_lload hC dX9_in_7 rfl ?_
    refine Z_lcmp hC dX9_in_9 ?_
    refine Z_if_gt (tgt := 17) hC dX9_in_10 (by decide) (fun c2 => ?_) (fun c2 => ?_)
    · have k := k.1 c2
      refine Z_iconst (v := 0) hC dX9_in_17 rfl ?_
      exact Z_zret hC dX9_in_18 rfl k.1 k.2
    · have k := k.2 c2
      refine Z_iconst (v := 1) hC dX9_in_13 rfl ?_
      refine Z_goto (tgt := 18) hC dX9_in_14 (by decide) ?_
      exact Z_zret hC dX9_in_18 rfl k.1 k.2
theorem eX9_in {y0 : Int64} {y2 : Int64} {y4 : Int64} {X : Option Value} {Y : ZS} {s : ZS} (k : (((lg_cmp y0 y2) < 0 → (X = some (.int 0) ∧ Y = s)) ∧ (¬ (lg_cmp y0 y2) < 0 → ((0 < (lg_cmp y0 y4) → (X = some (.int 0) ∧ Y = s)) ∧ (¬ 0 < (lg_cmp y0 y4) → (X = some (.int 1) ∧ Y = s)))))) : Ev l ad D ia d mX9_in [.long y0, .long y2, .long y4] s X Y :=
  Ev.start (by decide +kernel) (Nat.le_of_ble_eq_true rfl) (fun C hC => bX9_in_0  hC k)
set_option maxRecDepth 100000 in
set_option maxHeartbeats 4000000 in
theorem bX9_flag_0 {x0 : Int32} {C : ZC} {X : Option Value} {Y : ZS} {s : ZS} (hC : Zok ad D ia C d cX9_flag 1 RX9 (some .int)) (k : ((x0 = 0 → (X = some (.int 0) ∧ Y = s)) ∧ (¬ x0 = 0 → (X = some (.int 1) ∧ Y = s)))) : Z l ad D ia C X Y 0 [(0, .int x0)] [] s := by
  refine Z_iload_n hC dX9_flag_0 rfl rfl ?_
  refine Z_if_eq (tgt := 8) hC dX9_flag_1 (by decide) (fun c1 => ?_) (fun c1 => ?_)
  · have k := k.1 c1
    refine Z_iconst (v := 0) hC dX9_flag_8 rfl ?_
    exact Z_iret hC dX9_flag_9 k.1 k.2
  · have k := k.2 c1
    refine Z_iconst (v := 1) hC dX9_flag_4 rfl ?_
    refine Z_goto (tgt := 9) hC dX9_flag_5 (by decide) ?_
    exact Z_iret hC dX9_flag_9 k.1 k.2
theorem eX9_flag {x0 : Int32} {X : Option Value} {Y : ZS} {s : ZS} (k : ((x0 = 0 → (X = some (.int 0) ∧ Y = s)) ∧ (¬ x0 = 0 → (X = some (.int 1) ∧ Y = s)))) : Ev l ad D ia d mX9_flag [.int x0] s X Y :=
  Ev.start (by decide +kernel) (Nat.le_of_ble_eq_true rfl) (fun C hC => bX9_flag_0  hC k)
set_option maxRecDepth 100000 in
set_option maxHeartbeats 4000000 in
theorem bX9_lesser_0 {x0 : Int32} {x1 : Int32} {C : ZC} {X : Option Value} {Y : ZS} {s : ZS} (hC : Zok ad D ia C d cX9_lesser 2 RX9 (some .int)) (k : ((x1 ≤ x0 → (X = some (.int x1) ∧ Y = s)) ∧ (¬ x1 ≤ x0 → (X = some (.int x0) ∧ Y = s)))) : Z l ad D ia C X Y 0 [(0, .int x0), (1, .int x1)] [] s := by
  refine Z_iload_n hC dX9_lesser_0 rfl rfl ?_
  refine Z_iload_n hC dX9_lesser_1 rfl rfl ?_
  refine Z_icmp_ge (tgt := 9) hC dX9_lesser_2 (by decide) (fun c1 => ?_) (fun c1 => ?_)
  · have k := k.1 c1
    refine Z_iload_n hC dX9_lesser_9 rfl rfl ?_
    exact Z_iret hC dX9_lesser_10 k.1 k.2
  · have k := k.2 c1
    refine Z_iload_n hC dX9_lesser_5 rfl rfl ?_
    refine Z_goto (tgt := 10) hC dX9_lesser_6 (by decide) ?_
    exact Z_iret hC dX9_lesser_10 k.1 k.2
theorem eX9_lesser {x0 : Int32} {x1 : Int32} {X : Option Value} {Y : ZS} {s : ZS} (k : ((x1 ≤ x0 → (X = some (.int x1) ∧ Y = s)) ∧ (¬ x1 ≤ x0 → (X = some (.int x0) ∧ Y = s)))) : Ev l ad D ia d mX9_lesser [.int x0, .int x1] s X Y :=
  Ev.start (by decide +kernel) (Nat.le_of_ble_eq_true rfl) (fun C hC => bX9_lesser_0  hC k)
set_option maxRecDepth 100000 in
set_option maxHeartbeats 4000000 in
theorem bX9_bitsOf_0 {x0 : Int32} {C : ZC} {X : Option Value} {Y : ZS} {s : ZS} (hC : Zok ad D ia C d cX9_bitsOf 3 RX9 (some .int)) (k : Z l ad D ia C X Y 4 [(0, .int x0), (1, .int 0), (2, .int 0)] [] s) : Z l ad D ia C X Y 0 [(0, .int x0)] [] s := by
  refine Z_iconst (v := 0) hC dX9_bitsOf_0 rfl ?_
  refine Z_istore_n (V2 := [(1, .int 0), (0, .int x0)]) hC dX9_bitsOf_1 rfl (by decide) rfl ?_
  refine Z_iconst (v := 0) hC dX9_bitsOf_2 rfl ?_
  refine Z_istore_n (V2 := [(2, .int 0), (1, .int 0), (0, .int x0)]) hC dX9_bitsOf_3 rfl (by decide) rfl ?_
  exact Z_pick [2, 1, 0] rfl k
theorem eX9_bitsOf {x0 : Int32} {X : Option Value} {Y : ZS} {s : ZS} (k : ∀ C : ZC, Zok ad D ia C d cX9_bitsOf 3 RX9 (some .int) → Z l ad D ia C X Y 4 [(0, .int x0), (1, .int 0), (2, .int 0)] [] s) : Ev l ad D ia d mX9_bitsOf [.int x0] s X Y :=
  Ev.start (by decide +kernel) (Nat.le_of_ble_eq_true rfl) (fun C hC => bX9_bitsOf_0  hC (k C hC))
set_option maxRecDepth 100000 in
set_option maxHeartbeats 4000000 in
theorem bX9_bitsOf_4 {x0 : Int32} {x1 : Int32} {x2 : Int32} {C : ZC} {X : Option Value} {Y : ZS} {s : ZS} (hC : Zok ad D ia C d cX9_bitsOf 3 RX9 (some .int)) (k : ((8 ≤ x2 → (X = some (.int x1) ∧ Y = s)) ∧ (¬ 8 ≤ x2 → Z l ad D ia C X Y 4 [(0, .int x0), (1, .int (x1 + ((x0 >>> (x2 &&& 31)) &&& 1))), (2, .int (x2 + 1))] [] s))) : Z l ad D ia C X Y 4 [(0, .int x0), (1, .int x1), (2, .int x2)] [] s := by
  refine Z_iload_n hC dX9_bitsOf_4 rfl rfl ?_
  refine Z_bipush (v := 8) hC dX9_bitsOf_5 rfl ?_
  refine Z_icmp_ge (tgt := 24) hC dX9_bitsOf_7 (by decide) (fun c1 => ?_) (fun c1 => ?_)
  · have k := k.1 c1
    refine Z_iload_n hC dX9_bitsOf_24 rfl rfl ?_
    exact Z_iret hC dX9_bitsOf_25 k.1 k.2
  · have k := k.2 c1
    refine Z_iload_n hC dX9_bitsOf_10 rfl rfl ?_
    refine Z_iload_n hC dX9_bitsOf_11 rfl rfl ?_
    refine Z_iload_n hC dX9_bitsOf_12 rfl rfl ?_
    refine Z_ishr hC dX9_bitsOf_13 ?_
    refine Z_iconst (v := 1) hC dX9_bitsOf_14 rfl ?_
    refine Z_iand hC dX9_bitsOf_15 ?_
    refine Z_iadd hC dX9_bitsOf_16 ?_
    refine Z_istore_n (V2 := [(1, .int (x1 + ((x0 >>> (x2 &&& 31)) &&& 1))), (0, .int x0), (2, .int x2)]) hC dX9_bitsOf_17 rfl (by decide) rfl ?_
    refine Z_iinc (v := x2 + 1) (V2 := [(2, .int (x2 + 1)), (1, .int (x1 + ((x0 >>> (x2 &&& 31)) &&& 1))), (0, .int x0)]) hC dX9_bitsOf_18 rfl rfl (by decide) rfl ?_
    refine Z_goto (tgt := 4) hC dX9_bitsOf_21 (by decide) ?_
    exact Z_pick [2, 1, 0] rfl k
set_option maxRecDepth 100000 in
set_option maxHeartbeats 4000000 in
theorem bX9_firstDraft_0 {C : ZC} {X : Option Value} {Y : ZS} {s : ZS} (hC : Zok ad D ia C d cX9_firstDraft 2 RX9 none) (k : Z l ad D ia C X Y 2 [(0, .ref (ad 20 0)), (1, .int 0)] [] s) : Z l ad D ia C X Y 0 [(0, .ref (ad 20 0))] [] s := by
  refine Z_iconst (v := 0) hC dX9_firstDraft_0 rfl ?_
  refine Z_istore_n (V2 := [(1, .int 0), (0, .ref (ad 20 0))]) hC dX9_firstDraft_1 rfl (by decide) rfl ?_
  exact Z_pick [1, 0] rfl k
theorem eX9_firstDraft {X : Option Value} {Y : ZS} {s : ZS} (k : ∀ C : ZC, Zok ad D ia C d cX9_firstDraft 2 RX9 none → Z l ad D ia C X Y 2 [(0, .ref (ad 20 0)), (1, .int 0)] [] s) : Ev l ad D ia d mX9_firstDraft [.ref (ad 20 0)] s X Y :=
  Ev.start (by decide +kernel) (Nat.le_of_ble_eq_true rfl) (fun C hC => bX9_firstDraft_0  hC (k C hC))
set_option maxRecDepth 100000 in
set_option maxHeartbeats 4000000 in
theorem bX9_firstDraft_2 {x1 : Int32} {C : ZC} {X : Option Value} {Y : ZS} {s : ZS} (hC : Zok ad D ia C d cX9_firstDraft 2 RX9 none) (k : ((62 ≤ x1 → (∀ s2 : ZS, s2 = stI s 20 6 0 → (∀ s3 : ZS, s3 = stI s2 20 7 0 → (∀ s4 : ZS, s4 = stI s3 20 8 0 → (∀ s5 : ZS, s5 = stI s4 20 9 ((-4)) → (X = none ∧ Y = s5)))))) ∧ (¬ 62 ≤ x1 → (vp_in x1 62 ∧ (∀ s7 : ZS, s7 = stA s 20 5 x1.toNatClampNeg 0 → Z l ad D ia C X Y 2 [(0, .ref (ad 20 0)), (1, .int (x1 + 1))] [] s7))))) : Z l ad D ia C X Y 2 [(0, .ref (ad 20 0)), (1, .int x1)] [] s := by
  refine Z_iload_n hC dX9_firstDraft_2 rfl rfl ?_
  refine Z_bipush (v := 62) hC dX9_firstDraft_3 rfl ?_
  refine Z_icmp_ge (tgt := 21) hC dX9_firstDraft_5 (by decide) (fun c1 => ?_) (fun c1 => ?_)
  · have k := k.1 c1
    refine Z_aload_n hC dX9_firstDraft_21 rfl rfl ?_
    refine Z_iconst (v := 0) hC dX9_firstDraft_22 rfl ?_
    refine Z_putI (o := 20) (k := 6) hC rfl zs_9 pkX9_56 rfl rfl (hsX9_6 _ _ _) dX9_firstDraft_23 (fun s2 es2 => ?_)
    have k := k s2 es2
    refine Z_aload_n hC dX9_firstDraft_26 rfl rfl ?_
    refine Z_iconst (v := 0) hC dX9_firstDraft_27 rfl ?_
    refine Z_putI (o := 20) (k := 7) hC rfl zs_9 pkX9_60 rfl rfl (hsX9_7 _ _ _) dX9_firstDraft_28 (fun s3 es3 => ?_)
    have k := k s3 es3
    refine Z_aload_n hC dX9_firstDraft_31 rfl rfl ?_
    refine Z_iconst (v := 0) hC dX9_firstDraft_32 rfl ?_
    refine Z_putI (o := 20) (k := 8) hC rfl zs_9 pkX9_63 rfl rfl (hsX9_8 _ _ _) dX9_firstDraft_33 (fun s4 es4 => ?_)
    have k := k s4 es4
    refine Z_aload_n hC dX9_firstDraft_36 rfl rfl ?_
    refine Z_bipush (v := (-4)) hC dX9_firstDraft_37 rfl ?_
    refine Z_putI (o := 20) (k := 9) hC rfl zs_9 pkX9_67 rfl rfl (hsX9_9 _ _ _) dX9_firstDraft_39 (fun s5 es5 => ?_)
    have k := k s5 es5
    exact Z_vret hC dX9_firstDraft_42 k.1 k.2
  · have k := k.2 c1
    refine Z_aload_n hC dX9_firstDraft_8 rfl rfl ?_
    refine Z_get (o := 20) (c := 9) (k := 5) (v := .ref (ad 20 6)) hC rfl zs_9 lkX9_20 rfl dX9_firstDraft_9 ?_
    refine Z_iload_n hC dX9_firstDraft_12 rfl rfl ?_
    refine Z_iconst (v := 0) hC dX9_firstDraft_13 rfl ?_
    obtain ⟨h6, k⟩ := k
    refine Z_iast2 (o := 20) (k := 5) hC (zis_of rfl rfl) h6 dX9_firstDraft_14 (fun s7 es7 => ?_)
    have k := k s7 es7
    refine Z_iinc (v := x1 + 1) (V2 := [(1, .int (x1 + 1)), (0, .ref (ad 20 0))]) hC dX9_firstDraft_15 rfl rfl (by decide) rfl ?_
    refine Z_goto (tgt := 2) hC dX9_firstDraft_18 (by decide) ?_
    exact Z_pick [1, 0] rfl k
set_option maxRecDepth 100000 in
set_option maxHeartbeats 4000000 in
theorem bX9_keepDraft_0 {C : ZC} {X : Option Value} {Y : ZS} {s : ZS} (hC : Zok ad D ia C d cX9_keepDraft 2 RX9 none) (k : Z l ad D ia C X Y 2 [(0, .ref (ad 20 0)), (1, .int 0)] [] s) : Z l ad D ia C X Y 0 [(0, .ref (ad 20 0))] [] s := by
  refine Z_iconst (v := 0) hC dX9_keepDraft_0 rfl ?_
  refine Z_istore_n (V2 := [(1, .int 0), (0, .ref (ad 20 0))]) hC dX9_keepDraft_1 rfl (by decide) rfl ?_
  exact Z_pick [1, 0] rfl k
theorem eX9_keepDraft {X : Option Value} {Y : ZS} {s : ZS} (k : ∀ C : ZC, Zok ad D ia C d cX9_keepDraft 2 RX9 none → Z l ad D ia C X Y 2 [(0, .ref (ad 20 0)), (1, .int 0)] [] s) : Ev l ad D ia d mX9_keepDraft [.ref (ad 20 0)] s X Y :=
  Ev.start (by decide +kernel) (Nat.le_of_ble_eq_true rfl) (fun C hC => bX9_keepDraft_0  hC (k C hC))
set_option maxRecDepth 100000 in
set_option maxHeartbeats 4000000 in
theorem bX9_keepDraft_2 {x1 : Int32} {C : ZC} {X : Option Value} {Y : ZS} {s : ZS} (hC : Zok ad D ia C d cX9_keepDraft 2 RX9 none) (k : ((62 ≤ x1 → (∀ s2 : ZS, s2 = stI s 20 3 ((s 20).1 6) → (∀ s3 : ZS, s3 = stI s2 20 4 ((s2 20).1 7) → (vp_in 0 2 ∧ (∀ s5 : ZS, s5 = stA s3 20 2 (0 : Int32).toNatClampNeg (vp_nar .boolean 0) → (vp_in 1 2 ∧ (∀ s7 : ZS, s7 = stA s5 20 2 (1 : Int32).toNatClampNeg (vp_nar .boolean 0) → (X = none ∧ Y = s7)))))))) ∧ (¬ 62 ≤ x1 → (vp_in x1 62 ∧ (vp_in x1 186 ∧ (∀ s10 : ZS, s10 = stA s 20 0 x1.toNatClampNeg ((s 20).2.2 5 x1.toNatClampNeg) → Z l ad D ia C X Y 2 [(0, .ref (ad 20 0)), (1, .int (x1 + 1))] [] s10)))))) : Z l ad D ia C X Y 2 [(0, .ref (ad 20 0)), (1, .int x1)] [] s := by
  refine Z_iload_n hC dX9_keepDraft_2 rfl rfl ?_
  refine Z_bipush (v := 62) hC dX9_keepDraft_3 rfl ?_
  refine Z_icmp_ge (tgt := 26) hC dX9_keepDraft_5 (by decide) (fun c1 => ?_) (fun c1 => ?_)
  · have k := k.1 c1
    refine Z_aload_n hC dX9_keepDraft_26 rfl rfl ?_
    refine Z_aload_n hC dX9_keepDraft_27 rfl rfl ?_
    refine Z_get (o := 20) (c := 9) (k := 6) (v := .int ((s 20).1 6)) hC rfl zs_9 lkX9_56 rfl dX9_keepDraft_28 ?_
    refine Z_putI (o := 20) (k := 3) hC rfl zs_9 pkX9_70 rfl rfl (hsX9_3 _ _ _) dX9_keepDraft_31 (fun s2 es2 => ?_)
    have k := k s2 es2
    refine Z_aload_n hC dX9_keepDraft_34 rfl rfl ?_
    refine Z_aload_n hC dX9_keepDraft_35 rfl rfl ?_
    refine Z_get (o := 20) (c := 9) (k := 7) (v := .int ((s2 20).1 7)) hC rfl zs_9 lkX9_60 rfl dX9_keepDraft_36 ?_
    refine Z_putI (o := 20) (k := 4) hC rfl zs_9 pkX9_73 rfl rfl (hsX9_4 _ _ _) dX9_keepDraft_39 (fun s3 es3 => ?_)
    have k := k s3 es3
    refine Z_aload_n hC dX9_keepDraft_42 rfl rfl ?_
    refine Z_get (o := 20) (c := 9) (k := 2) (v := .ref (ad 20 3)) hC rfl zs_9 lkX9_16 rfl dX9_keepDraft_43 ?_
    refine Z_iconst (v := 0) hC dX9_keepDraft_46 rfl ?_
    refine Z_iconst (v := 0) hC dX9_keepDraft_47 rfl ?_
    obtain ⟨h4, k⟩ := k
    refine Z_zast2 (o := 20) (k := 2) hC (zis_of rfl rfl) h4 dX9_keepDraft_48 (fun s5 es5 => ?_)
    have k := k s5 es5
    refine Z_aload_n hC dX9_keepDraft_49 rfl rfl ?_
    refine Z_get (o := 20) (c := 9) (k := 2) (v := .ref (ad 20 3)) hC rfl zs_9 lkX9_16 rfl dX9_keepDraft_50 ?_
    refine Z_iconst (v := 1) hC dX9_keepDraft_53 rfl ?_
    refine Z_iconst (v := 0) hC dX9_keepDraft_54 rfl ?_
    obtain ⟨h6, k⟩ := k
    refine Z_zast2 (o := 20) (k := 2) hC (zis_of rfl rfl) h6 dX9_keepDraft_55 (fun s7 es7 => ?_)
    have k := k s7 es7
    exact Z_vret hC dX9_keepDraft_56 k.1 k.2
  · have k := k.2 c1
    refine Z_aload_n hC dX9_keepDraft_8 rfl rfl ?_
    refine Z_get (o := 20) (c := 9) (k := 0) (v := .ref (ad 20 1)) hC rfl zs_9 lkX9_7 rfl dX9_keepDraft_9 ?_
    refine Z_iload_n hC dX9_keepDraft_12 rfl rfl ?_
    refine Z_aload_n hC dX9_keepDraft_13 rfl rfl ?_
    refine Z_get (o := 20) (c := 9) (k := 5) (v := .ref (ad 20 6)) hC rfl zs_9 lkX9_20 rfl dX9_keepDraft_14 ?_
    refine Z_iload_n hC dX9_keepDraft_17 rfl rfl ?_
    obtain ⟨h8, k⟩ := k
    refine Z_iald (o := 20) (k := 5) hC (zis_of rfl rfl) h8 dX9_keepDraft_18 ?_
    obtain ⟨h9, k⟩ := k
    refine Z_iast2 (o := 20) (k := 0) hC (zis_of rfl rfl) h9 dX9_keepDraft_19 (fun s10 es10 => ?_)
    have k := k s10 es10
    refine Z_iinc (v := x1 + 1) (V2 := [(1, .int (x1 + 1)), (0, .ref (ad 20 0))]) hC dX9_keepDraft_20 rfl rfl (by decide) rfl ?_
    refine Z_goto (tgt := 2) hC dX9_keepDraft_23 (by decide) ?_
    exact Z_pick [1, 0] rfl k
set_option maxRecDepth 100000 in
set_option maxHeartbeats 4000000 in
theorem bX9_feed_0 {x1 : Int32} {C : ZC} {X : Option Value} {Y : ZS} {s : ZS} (hC : Zok ad D ia C (d + 1) cX9_feed 2 RX9 (some .int)) (k : (∃ (r2 : Int32) (s1 : ZS), Ev l ad D ia d mX9_in [.long x1.toInt64, .long 0, .long ((127))] s (some (.int r2)) s1 ∧ ((¬ r2 = 0 → ((¬ ((s1 20).1 11) = 160 → (vp_in ((s1 20).1 11) 160 ∧ (∀ s7 : ZS, s7 = stA s1 20 10 ((s1 20).1 11).toNatClampNeg x1 → (∀ s8 : ZS, s8 = stI s7 20 11 (((s7 20).1 11) + 1) → (X = some (.int ((s8 20).1 11)) ∧ Y = s8))))) ∧ (((s1 20).1 11) = 160 → (X = some (.int ((-3))) ∧ Y = s1)))) ∧ (r2 = 0 → (X = some (.int ((-1))) ∧ Y = s1))))) : Z l ad D ia C X Y 0 [(0, .ref (ad 20 0)), (1, .int x1)] [] s := by
  refine Z_iload_n hC dX9_feed_0 rfl rfl ?_
  refine Z_i2l hC dX9_feed_1 ?_
  refine Z_lconst (v := 0) hC dX9_feed_2 rfl ?_
  refine Z_ldc2 hC clX9_76 dX9_feed_3 ?_
  obtain ⟨r2, s1, h3, k⟩ := k
  refine Z_callS (As := [.long x1.toInt64, .long 0, .long ((127))]) (rest := []) hC h3 csX9_78 rfl rfl (Nat.le_of_ble_eq_true rfl) dX9_feed_6 ?_
  refine Z_if_ne (tgt := 14) hC dX9_feed_9 (by decide) (fun c4 => ?_) (fun c4 => ?_)
  · have k := k.1 c4
    refine Z_aload_n hC dX9_feed_14 rfl rfl ?_
    refine Z_get (o := 20) (c := 9) (k := 11) (v := .int ((s1 20).1 11)) hC rfl zs_9 lkX9_82 rfl dX9_feed_15 ?_
    refine Z_sipush (v := 160) hC dX9_feed_18 rfl ?_
    refine Z_icmp_ne (tgt := 27) hC dX9_feed_21 (by decide) (fun c5 => ?_) (fun c5 => ?_)
    · have k := k.1 c5
      refine Z_aload_n hC dX9_feed_27 rfl rfl ?_
      refine Z_get (o := 20) (c := 9) (k := 10) (v := .ref (ad 20 11)) hC rfl zs_9 lkX9_23 rfl dX9_feed_28 ?_
      refine Z_aload_n hC dX9_feed_31 rfl rfl ?_
      refine Z_get (o := 20) (c := 9) (k := 11) (v := .int ((s1 20).1 11)) hC rfl zs_9 lkX9_82 rfl dX9_feed_32 ?_
      refine Z_iload_n hC dX9_feed_35 rfl rfl ?_
      obtain ⟨h6, k⟩ := k
      refine Z_iast2 (o := 20) (k := 10) hC (zis_of rfl rfl) h6 dX9_feed_36 (fun s7 es7 => ?_)
      have k := k s7 es7
      refine Z_aload_n hC dX9_feed_37 rfl rfl ?_
      refine Z_dup hC dX9_feed_38 rfl ?_
      refine Z_get (o := 20) (c := 9) (k := 11) (v := .int ((s7 20).1 11)) hC rfl zs_9 lkX9_82 rfl dX9_feed_39 ?_
      refine Z_iconst (v := 1) hC dX9_feed_42 rfl ?_
      refine Z_iadd hC dX9_feed_43 ?_
      refine Z_putI (o := 20) (k := 11) hC rfl zs_9 pkX9_82 rfl rfl (hsX9_11 _ _ _) dX9_feed_44 (fun s8 es8 => ?_)
      have k := k s8 es8
      refine Z_aload_n hC dX9_feed_47 rfl rfl ?_
      refine Z_get (o := 20) (c := 9) (k := 11) (v := .int ((s8 20).1 11)) hC rfl zs_9 lkX9_82 rfl dX9_feed_48 ?_
      exact Z_iret hC dX9_feed_51 k.1 k.2
    · have k := k.2 c5
      refine Z_bipush (v := (-3)) hC dX9_feed_24 rfl ?_
      exact Z_iret hC dX9_feed_26 k.1 k.2
  · have k := k.2 c4
    refine Z_iconst (v := (-1)) hC dX9_feed_12 rfl ?_
    exact Z_iret hC dX9_feed_13 k.1 k.2
theorem eX9_feed {x1 : Int32} {X : Option Value} {Y : ZS} {s : ZS} (k : (∃ (r2 : Int32) (s1 : ZS), Ev l ad D ia d mX9_in [.long x1.toInt64, .long 0, .long ((127))] s (some (.int r2)) s1 ∧ ((¬ r2 = 0 → ((¬ ((s1 20).1 11) = 160 → (vp_in ((s1 20).1 11) 160 ∧ (∀ s7 : ZS, s7 = stA s1 20 10 ((s1 20).1 11).toNatClampNeg x1 → (∀ s8 : ZS, s8 = stI s7 20 11 (((s7 20).1 11) + 1) → (X = some (.int ((s8 20).1 11)) ∧ Y = s8))))) ∧ (((s1 20).1 11) = 160 → (X = some (.int ((-3))) ∧ Y = s1)))) ∧ (r2 = 0 → (X = some (.int ((-1))) ∧ Y = s1))))) : Ev l ad D ia (d + 1) mX9_feed [.ref (ad 20 0), .int x1] s X Y :=
  Ev.start (by decide +kernel) (Nat.le_of_ble_eq_true rfl) (fun C hC => bX9_feed_0  hC k)
set_option maxRecDepth 100000 in
set_option maxHeartbeats 4000000 in
theorem bX9_end_0 {x1 : Int32} {C : ZC} {X : Option Value} {Y : ZS} {s : ZS} (hC : Zok ad D ia C (d + 1) cX9_end 3 RX9 (some .int)) (k : (∃ (r2 : Int32) (s1 : ZS), Ev l ad D ia d mX9_in [.long x1.toInt64, .long 0, .long (((s 20).1 11).toInt64)] s (some (.int r2)) s1 ∧ ((¬ r2 = 0 → (∀ s5 : ZS, s5 = stI s1 20 11 x1 → (X = some (.int ((s1 20).1 11)) ∧ Y = s5))) ∧ (r2 = 0 → (X = some (.int ((-1))) ∧ Y = s1))))) : Z l ad D ia C X Y 0 [(0, .ref (ad 20 0)), (1, .int x1)] [] s := by
  refine Z_iload_n hC dX9_end_0 rfl rfl ?_
  refine Z_i2l hC dX9_end_1 ?_
  refine Z_lconst (v := 0) hC dX9_end_2 rfl ?_
  refine Z_aload_n hC dX9_end_3 rfl rfl ?_
  refine Z_get (o := 20) (c := 9) (k := 11) (v := .int ((s 20).1 11)) hC rfl zs_9 lkX9_82 rfl dX9_end_4 ?_
  refine Z_i2l hC dX9_end_7 ?_
  obtain ⟨r2, s1, h3, k⟩ := k
  refine Z_callS (As := [.long x1.toInt64, .long 0, .long (((s 20).1 11).toInt64)]) (rest := []) hC h3 csX9_78 rfl rfl (Nat.le_of_ble_eq_true rfl) dX9_end_8 ?_
  refine Z_if_ne (tgt := 16) hC dX9_end_11 (by decide) (fun c4 => ?_) (fun c4 => ?_)
  · have k := k.1 c4
    refine Z_aload_n hC dX9_end_16 rfl rfl ?_
    refine Z_get (o := 20) (c := 9) (k := 11) (v := .int ((s1 20).1 11)) hC rfl zs_9 lkX9_82 rfl dX9_end_17 ?_
    refine Z_istore_n (V2 := [(2, .int ((s1 20).1 11)), (0, .ref (ad 20 0)), (1, .int x1)]) hC dX9_end_20 rfl (by decide) rfl ?_
    refine Z_aload_n hC dX9_end_21 rfl rfl ?_
    refine Z_iload_n hC dX9_end_22 rfl rfl ?_
    refine Z_putI (o := 20) (k := 11) hC rfl zs_9 pkX9_82 rfl rfl (hsX9_11 _ _ _) dX9_end_23 (fun s5 es5 => ?_)
    have k := k s5 es5
    refine Z_iload_n hC dX9_end_26 rfl rfl ?_
    exact Z_iret hC dX9_end_27 k.1 k.2
  · have k := k.2 c4
    refine Z_iconst (v := (-1)) hC dX9_end_14 rfl ?_
    exact Z_iret hC dX9_end_15 k.1 k.2
theorem eX9_end {x1 : Int32} {X : Option Value} {Y : ZS} {s : ZS} (k : (∃ (r2 : Int32) (s1 : ZS), Ev l ad D ia d mX9_in [.long x1.toInt64, .long 0, .long (((s 20).1 11).toInt64)] s (some (.int r2)) s1 ∧ ((¬ r2 = 0 → (∀ s5 : ZS, s5 = stI s1 20 11 x1 → (X = some (.int ((s1 20).1 11)) ∧ Y = s5))) ∧ (r2 = 0 → (X = some (.int ((-1))) ∧ Y = s1))))) : Ev l ad D ia (d + 1) mX9_end [.ref (ad 20 0), .int x1] s X Y :=
  Ev.start (by decide +kernel) (Nat.le_of_ble_eq_true rfl) (fun C hC => bX9_end_0  hC k)
set_option maxRecDepth 100000 in
set_option maxHeartbeats 4000000 in
theorem bX9_needs_0 {x1 : Int32} {x2 : Int32} {C : ZC} {X : Option Value} {Y : ZS} {s : ZS} (hC : Zok ad D ia C d cX9_needs 3 RX9 none) (k : ((¬ x1 = 0 → (X = none ∧ Y = s)) ∧ (x1 = 0 → ((¬ ((s 20).1 16) = 0 → (X = none ∧ Y = s)) ∧ (((s 20).1 16) = 0 → (∀ s3 : ZS, s3 = stI s 20 16 x2 → (∀ s4 : ZS, s4 = stI s3 20 17 ((s3 20).1 13) → (X = none ∧ Y = s4)))))))) : Z l ad D ia C X Y 0 [(0, .ref (ad 20 0)), (1, .int x1), (2, .int x2)] [] s := by
  refine Z_iload_n hC dX9_needs_0 rfl rfl ?_
  refine Z_if_ne (tgt := 24) hC dX9_needs_1 (by decide) (fun c1 => ?_) (fun c1 => ?_)
  · have k := k.1 c1
    exact Z_vret hC dX9_needs_24 k.1 k.2
  · have k := k.2 c1
    refine Z_aload_n hC dX9_needs_4 rfl rfl ?_
    refine Z_get (o := 20) (c := 9) (k := 16) (v := .int ((s 20).1 16)) hC rfl zs_9 lkX9_85 rfl dX9_needs_5 ?_
    refine Z_if_ne (tgt := 24) hC dX9_needs_8 (by decide) (fun c2 => ?_) (fun c2 => ?_)
    · have k := k.1 c2
      exact Z_vret hC dX9_needs_24 k.1 k.2
    · have k := k.2 c2
      refine Z_aload_n hC dX9_needs_11 rfl rfl ?_
      refine Z_iload_n hC dX9_needs_12 rfl rfl ?_
      refine Z_putI (o := 20) (k := 16) hC rfl zs_9 pkX9_85 rfl rfl (hsX9_16 _ _ _) dX9_needs_13 (fun s3 es3 => ?_)
      have k := k s3 es3
      refine Z_aload_n hC dX9_needs_16 rfl rfl ?_
      refine Z_aload_n hC dX9_needs_17 rfl rfl ?_
      refine Z_get (o := 20) (c := 9) (k := 13) (v := .int ((s3 20).1 13)) hC rfl zs_9 lkX9_88 rfl dX9_needs_18 ?_
      refine Z_putI (o := 20) (k := 17) hC rfl zs_9 pkX9_91 rfl rfl (hsX9_17 _ _ _) dX9_needs_21 (fun s4 es4 => ?_)
      have k := k s4 es4
      exact Z_vret hC dX9_needs_24 k.1 k.2
theorem eX9_needs {x1 : Int32} {x2 : Int32} {X : Option Value} {Y : ZS} {s : ZS} (k : ((¬ x1 = 0 → (X = none ∧ Y = s)) ∧ (x1 = 0 → ((¬ ((s 20).1 16) = 0 → (X = none ∧ Y = s)) ∧ (((s 20).1 16) = 0 → (∀ s3 : ZS, s3 = stI s 20 16 x2 → (∀ s4 : ZS, s4 = stI s3 20 17 ((s3 20).1 13) → (X = none ∧ Y = s4)))))))) : Ev l ad D ia d mX9_needs [.ref (ad 20 0), .int x1, .int x2] s X Y :=
  Ev.start (by decide +kernel) (Nat.le_of_ble_eq_true rfl) (fun C hC => bX9_needs_0  hC k)
set_option maxRecDepth 100000 in
set_option maxHeartbeats 4000000 in
theorem bX9_byteAt_0 {x1 : Int32} {C : ZC} {X : Option Value} {Y : ZS} {s : ZS} (hC : Zok ad D ia C d cX9_byteAt 2 RX9 (some .int)) (k : ((((s 20).1 11) ≤ x1 → (X = some (.int ((-1))) ∧ Y = s)) ∧ (¬ ((s 20).1 11) ≤ x1 → (vp_in x1 160 ∧ (X = some (.int ((s 20).2.2 10 x1.toNatClampNeg)) ∧ Y = s))))) : Z l ad D ia C X Y 0 [(0, .ref (ad 20 0)), (1, .int x1)] [] s := by
  refine Z_iload_n hC dX9_byteAt_0 rfl rfl ?_
  refine Z_aload_n hC dX9_byteAt_1 rfl rfl ?_
  refine Z_get (o := 20) (c := 9) (k := 11) (v := .int ((s 20).1 11)) hC rfl zs_9 lkX9_82 rfl dX9_byteAt_2 ?_
  refine Z_icmp_ge (tgt := 17) hC dX9_byteAt_5 (by decide) (fun c1 => ?_) (fun c1 => ?_)
  · have k := k.1 c1
    refine Z_iconst (v := (-1)) hC dX9_byteAt_17 rfl ?_
    exact Z_iret hC dX9_byteAt_18 k.1 k.2
  · have k := k.2 c1
    refine Z_aload_n hC dX9_byteAt_8 rfl rfl ?_
    refine Z_get (o := 20) (c := 9) (k := 10) (v := .ref (ad 20 11)) hC rfl zs_9 lkX9_23 rfl dX9_byteAt_9 ?_
    refine Z_iload_n hC dX9_byteAt_12 rfl rfl ?_
    obtain ⟨h2, k⟩ := k
    refine Z_iald (o := 20) (k := 10) hC (zis_of rfl rfl) h2 dX9_byteAt_13 ?_
    refine Z_goto (tgt := 18) hC dX9_byteAt_14 (by decide) ?_
    exact Z_iret hC dX9_byteAt_18 k.1 k.2
theorem eX9_byteAt {x1 : Int32} {X : Option Value} {Y : ZS} {s : ZS} (k : ((((s 20).1 11) ≤ x1 → (X = some (.int ((-1))) ∧ Y = s)) ∧ (¬ ((s 20).1 11) ≤ x1 → (vp_in x1 160 ∧ (X = some (.int ((s 20).2.2 10 x1.toNatClampNeg)) ∧ Y = s))))) : Ev l ad D ia d mX9_byteAt [.ref (ad 20 0), .int x1] s X Y :=
  Ev.start (by decide +kernel) (Nat.le_of_ble_eq_true rfl) (fun C hC => bX9_byteAt_0  hC k)
set_option maxRecDepth 100000 in
set_option maxHeartbeats 4000000 in
theorem bX9_is_0 {x1 : Int32} {x2 : Int32} {x3 : Int32} {x4 : Int32} {x5 : Int32} {C : ZC} {X : Option Value} {Y : ZS} {s : ZS} (hC : Zok ad D ia C (d + 1) cX9_is 6 RX9 (some .boolean)) (k : ((¬ (((s 20).1 12) - ((s 20).1 13)) = x1 → (X = some (.int 0) ∧ Y = s)) ∧ ((((s 20).1 12) - ((s 20).1 13)) = x1 → (∃ (r3 : Int32) (s2 : ZS), Ev l ad D ia d mX9_byteAt [.ref (ad 20 0), .int ((s 20).1 13)] s (some (.int r3)) s2 ∧ ((¬ r3 = x2 → (X = some (.int 0) ∧ Y = s2)) ∧ (r3 = x2 → (∃ (r7 : Int32) (s6 : ZS), Ev l ad D ia d mX9_byteAt [.ref (ad 20 0), .int (((s2 20).1 13) + 1)] s2 (some (.int r7)) s6 ∧ ((¬ r7 = x3 → (X = some (.int 0) ∧ Y = s6)) ∧ (r7 = x3 → (∃ (r11 : Int32) (s10 : ZS), Ev l ad D ia d mX9_byteAt [.ref (ad 20 0), .int (((s6 20).1 13) + 2)] s6 (some (.int r11)) s10 ∧ ((¬ r11 = x4 → (X = some (.int 0) ∧ Y = s10)) ∧ (r11 = x4 → (∃ (r15 : Int32) (s14 : ZS), Ev l ad D ia d mX9_byteAt [.ref (ad 20 0), .int (((s10 20).1 13) + 3)] s10 (some (.int r15)) s14 ∧ ((¬ r15 = x5 → (X = some (.int 0) ∧ Y = s14)) ∧ (r15 = x5 → (X = some (.int 1) ∧ Y = s14)))))))))))))))) : Z l ad D ia C X Y 0 [(0, .ref (ad 20 0)), (1, .int x1), (2, .int x2), (3, .int x3), (4, .int x4), (5, .int x5)] [] s := by
  refine Z_aload_n hC dX9_is_0 rfl rfl ?_
  refine Z_get (o := 20) (c := 9) (k := 12) (v := .int ((s 20).1 12)) hC rfl zs_9 lkX9_94 rfl dX9_is_1 ?_
  refine Z_aload_n hC dX9_is_4 rfl rfl ?_
  refine Z_get (o := 20) (c := 9) (k := 13) (v := .int ((s 20).1 13)) hC rfl zs_9 lkX9_88 rfl dX9_is_5 ?_
  refine Z_isub hC dX9_is_8 ?_
  refine Z_iload_n hC dX9_is_9 rfl rfl ?_
  refine Z_icmp_ne (tgt := 73) hC dX9_is_10 (by decide) (fun c1 => ?_) (fun c1 => ?_)
  · have k := k.1 c1
    refine Z_iconst (v := 0) hC dX9_is_73 rfl ?_
    exact Z_zret hC dX9_is_74 rfl k.1 k.2
  · have k := k.2 c1
    refine Z_aload_n hC dX9_is_13 rfl rfl ?_
    refine Z_aload_n hC dX9_is_14 rfl rfl ?_
    refine Z_get (o := 20) (c := 9) (k := 13) (v := .int ((s 20).1 13)) hC rfl zs_9 lkX9_88 rfl dX9_is_15 ?_
    obtain ⟨r3, s2, h4, k⟩ := k
    refine Z_callV (As := [.int ((s 20).1 13)]) (rest := []) hC h4 cvX9_97 ⟨9, rfl, zs_9, _, rfl, rfl⟩ rfl rfl (Nat.le_of_ble_eq_true rfl) dX9_is_18 ?_
    refine Z_iload_n hC dX9_is_21 rfl rfl ?_
    refine Z_icmp_ne (tgt := 73) hC dX9_is_22 (by decide) (fun c5 => ?_) (fun c5 => ?_)
    · have k := k.1 c5
      refine Z_iconst (v := 0) hC dX9_is_73 rfl ?_
      exact Z_zret hC dX9_is_74 rfl k.1 k.2
    · have k := k.2 c5
      refine Z_aload_n hC dX9_is_25 rfl rfl ?_
      refine Z_aload_n hC dX9_is_26 rfl rfl ?_
      refine Z_get (o := 20) (c := 9) (k := 13) (v := .int ((s2 20).1 13)) hC rfl zs_9 lkX9_88 rfl dX9_is_27 ?_
      refine Z_iconst (v := 1) hC dX9_is_30 rfl ?_
      refine Z_iadd hC dX9_is_31 ?_
      obtain ⟨r7, s6, h8, k⟩ := k
      refine Z_callV (As := [.int (((s2 20).1 13) + 1)]) (rest := []) hC h8 cvX9_97 ⟨9, rfl, zs_9, _, rfl, rfl⟩ rfl rfl (Nat.le_of_ble_eq_true rfl) dX9_is_32 ?_
      refine Z_iload_n hC dX9_is_35 rfl rfl ?_
      refine Z_icmp_ne (tgt := 73) hC dX9_is_36 (by decide) (fun c9 => ?_) (fun c9 => ?_)
      · have k := k.1 c9
        refine Z_iconst (v := 0) hC dX9_is_73 rfl ?_
        exact Z_zret hC dX9_is_74 rfl k.1 k.2
      · have k := k.2 c9
        refine Z_aload_n hC dX9_is_39 rfl rfl ?_
        refine Z_aload_n hC dX9_is_40 rfl rfl ?_
        refine Z_get (o := 20) (c := 9) (k := 13) (v := .int ((s6 20).1 13)) hC rfl zs_9 lkX9_88 rfl dX9_is_41 ?_
        refine Z_iconst (v := 2) hC dX9_is_44 rfl ?_
        refine Z_iadd hC dX9_is_45 ?_
        obtain ⟨r11, s10, h12, k⟩ := k
        refine Z_callV (As := [.int (((s6 20).1 13) + 2)]) (rest := []) hC h12 cvX9_97 ⟨9, rfl, zs_9, _, rfl, rfl⟩ rfl rfl (Nat.le_of_ble_eq_true rfl) dX9_is_46 ?_
        refine Z_iload hC dX9_is_49 rfl ?_
        refine Z_icmp_ne (tgt := 73) hC dX9_is_51 (by decide) (fun c13 => ?_) (fun c13 => ?_)
        · have k := k.1 c13
          refine Z_iconst (v := 0) hC dX9_is_73 rfl ?_
          exact Z_zret hC dX9_is_74 rfl k.1 k.2
        · have k := k.2 c13
          refine Z_aload_n hC dX9_is_54 rfl rfl ?_
          refine Z_aload_n hC dX9_is_55 rfl rfl ?_
          refine Z_get (o := 20) (c := 9) (k := 13) (v := .int ((s10 20).1 13)) hC rfl zs_9 lkX9_88 rfl dX9_is_56 ?_
          refine Z_iconst (v := 3) hC dX9_is_59 rfl ?_
          refine Z_iadd hC dX9_is_60 ?_
          obtain ⟨r15, s14, h16, k⟩ := k
          refine Z_callV (As := [.int (((s10 20).1 13) + 3)]) (rest := []) hC h16 cvX9_97 ⟨9, rfl, zs_9, _, rfl, rfl⟩ rfl rfl (Nat.le_of_ble_eq_true rfl) dX9_is_61 ?_
          refine Z_iload hC dX9_is_64 rfl ?_
          refine Z_icmp_ne (tgt := 73) hC dX9_is_66 (by decide) (fun c17 => ?_) (fun c17 => ?_)
          · have k := k.1 c17
            refine Z_iconst (v := 0) hC dX9_is_73 rfl ?_
            exact Z_zret hC dX9_is_74 rfl k.1 k.2
          · have k := k.2 c17
            refine Z_iconst (v := 1) hC dX9_is_69 rfl ?_
            refine Z_goto (tgt := 74) hC dX9_is_70 (by decide) ?_
            exact Z_zret hC dX9_is_74 rfl k.1 k.2
theorem eX9_is {x1 : Int32} {x2 : Int32} {x3 : Int32} {x4 : Int32} {x5 : Int32} {X : Option Value} {Y : ZS} {s : ZS} (k : ((¬ (((s 20).1 12) - ((s 20).1 13)) = x1 → (X = some (.int 0) ∧ Y = s)) ∧ ((((s 20).1 12) - ((s 20).1 13)) = x1 → (∃ (r3 : Int32) (s2 : ZS), Ev l ad D ia d mX9_byteAt [.ref (ad 20 0), .int ((s 20).1 13)] s (some (.int r3)) s2 ∧ ((¬ r3 = x2 → (X = some (.int 0) ∧ Y = s2)) ∧ (r3 = x2 → (∃ (r7 : Int32) (s6 : ZS), Ev l ad D ia d mX9_byteAt [.ref (ad 20 0), .int (((s2 20).1 13) + 1)] s2 (some (.int r7)) s6 ∧ ((¬ r7 = x3 → (X = some (.int 0) ∧ Y = s6)) ∧ (r7 = x3 → (∃ (r11 : Int32) (s10 : ZS), Ev l ad D ia d mX9_byteAt [.ref (ad 20 0), .int (((s6 20).1 13) + 2)] s6 (some (.int r11)) s10 ∧ ((¬ r11 = x4 → (X = some (.int 0) ∧ Y = s10)) ∧ (r11 = x4 → (∃ (r15 : Int32) (s14 : ZS), Ev l ad D ia d mX9_byteAt [.ref (ad 20 0), .int (((s10 20).1 13) + 3)] s10 (some (.int r15)) s14 ∧ ((¬ r15 = x5 → (X = some (.int 0) ∧ Y = s14)) ∧ (r15 = x5 → (X = some (.int 1) ∧ Y = s14)))))))))))))))) : Ev l ad D ia (d + 1) mX9_is [.ref (ad 20 0), .int x1, .int x2, .int x3, .int x4, .int x5] s X Y :=
  Ev.start (by decide +kernel) (Nat.le_of_ble_eq_true rfl) (fun C hC => bX9_is_0  hC k)
set_option maxRecDepth 100000 in
set_option maxHeartbeats 4000000 in
theorem bX9_ends_0 {x1 : Int32} {x2 : Int32} {C : ZC} {X : Option Value} {Y : ZS} {s : ZS} (hC : Zok ad D ia C (d + 1) cX9_ends 3 RX9 (some .boolean)) (k : (∃ (r2 : Int32) (s1 : ZS), Ev l ad D ia d mX9_byteAt [.ref (ad 20 0), .int (((s 20).1 13) + 4)] s (some (.int r2)) s1 ∧ ((¬ r2 = x1 → (X = some (.int 0) ∧ Y = s1)) ∧ (r2 = x1 → ((x2 = 0 → (X = some (.int 1) ∧ Y = s1)) ∧ (¬ x2 = 0 → (∃ (r7 : Int32) (s6 : ZS), Ev l ad D ia d mX9_byteAt [.ref (ad 20 0), .int (((s1 20).1 13) + 5)] s1 (some (.int r7)) s6 ∧ ((¬ r7 = x2 → (X = some (.int 0) ∧ Y = s6)) ∧ (r7 = x2 → (X = some (.int 1) ∧ Y = s6)))))))))) : Z l ad D ia C X Y 0 [(0, .ref (ad 20 0)), (1, .int x1), (2, .int x2)] [] s := by
  refine Z_aload_n hC dX9_ends_0 rfl rfl ?_
  refine Z_aload_n hC dX9_ends_1 rfl rfl ?_
  refine Z_get (o := 20) (c := 9) (k := 13) (v := .int ((s 20).1 13)) hC rfl zs_9 lkX9_88 rfl dX9_ends_2 ?_
  refine Z_iconst (v := 4) hC dX9_ends_5 rfl ?_
  refine Z_iadd hC dX9_ends_6 ?_
  obtain ⟨r2, s1, h3, k⟩ := k
  refine Z_callV (As := [.int (((s 20).1 13) + 4)]) (rest := []) hC h3 cvX9_97 ⟨9, rfl, zs_9, _, rfl, rfl⟩ rfl rfl (Nat.le_of_ble_eq_true rfl) dX9_ends_7 ?_
  refine Z_iload_n hC dX9_ends_10 rfl rfl ?_
  refine Z_icmp_ne (tgt := 36) hC dX9_ends_11 (by decide) (fun c4 => ?_) (fun c4 => ?_)
  · have k := k.1 c4
    refine Z_iconst (v := 0) hC dX9_ends_36 rfl ?_
    exact Z_zret hC dX9_ends_37 rfl k.1 k.2
  · have k := k.2 c4
    refine Z_iload_n hC dX9_ends_14 rfl rfl ?_
    refine Z_if_eq (tgt := 32) hC dX9_ends_15 (by decide) (fun c5 => ?_) (fun c5 => ?_)
    · have k := k.1 c5
      refine Z_iconst (v := 1) hC dX9_ends_32 rfl ?_
      refine Z_goto (tgt := 37) hC dX9_ends_33 (by decide) ?_
      exact Z_zret hC dX9_ends_37 rfl k.1 k.2
    · have k := k.2 c5
      refine Z_aload_n hC dX9_ends_18 rfl rfl ?_
      refine Z_aload_n hC dX9_ends_19 rfl rfl ?_
      refine Z_get (o := 20) (c := 9) (k := 13) (v := .int ((s1 20).1 13)) hC rfl zs_9 lkX9_88 rfl dX9_ends_20 ?_
      refine Z_iconst (v := 5) hC dX9_ends_23 rfl ?_
      refine Z_iadd hC dX9_ends_24 ?_
      obtain ⟨r7, s6, h8, k⟩ := k
      refine Z_callV (As := [.int (((s1 20).1 13) + 5)]) (rest := []) hC h8 cvX9_97 ⟨9, rfl, zs_9, _, rfl, rfl⟩ rfl rfl (Nat.le_of_ble_eq_true rfl) dX9_ends_25 ?_
      refine Z_iload_n hC dX9_ends_28 rfl rfl ?_
      refine Z_icmp_ne (tgt := 36) hC dX9_ends_29 (by decide) (fun c9 => ?_) (fun c9 => ?_)
      · have k := k.1 c9
        refine Z_iconst (v := 0) hC dX9_ends_36 rfl ?_
        exact Z_zret hC dX9_ends_37 rfl k.1 k.2
      · have k := k.2 c9
        refine Z_iconst (v := 1) hC dX9_ends_32 rfl ?_
        refine Z_goto (tgt := 37) hC dX9_ends_33 (by decide) ?_
        exact Z_zret hC dX9_ends_37 rfl k.1 k.2
theorem eX9_ends {x1 : Int32} {x2 : Int32} {X : Option Value} {Y : ZS} {s : ZS} (k : (∃ (r2 : Int32) (s1 : ZS), Ev l ad D ia d mX9_byteAt [.ref (ad 20 0), .int (((s 20).1 13) + 4)] s (some (.int r2)) s1 ∧ ((¬ r2 = x1 → (X = some (.int 0) ∧ Y = s1)) ∧ (r2 = x1 → ((x2 = 0 → (X = some (.int 1) ∧ Y = s1)) ∧ (¬ x2 = 0 → (∃ (r7 : Int32) (s6 : ZS), Ev l ad D ia d mX9_byteAt [.ref (ad 20 0), .int (((s1 20).1 13) + 5)] s1 (some (.int r7)) s6 ∧ ((¬ r7 = x2 → (X = some (.int 0) ∧ Y = s6)) ∧ (r7 = x2 → (X = some (.int 1) ∧ Y = s6)))))))))) : Ev l ad D ia (d + 1) mX9_ends [.ref (ad 20 0), .int x1, .int x2] s X Y :=
  Ev.start (by decide +kernel) (Nat.le_of_ble_eq_true rfl) (fun C hC => bX9_ends_0  hC k)
set_option maxRecDepth 100000 in
set_option maxHeartbeats 4000000 in
theorem bX9_lineNow_0 {C : ZC} {X : Option Value} {Y : ZS} {s : ZS} (hC : Zok ad D ia C (d + 1) cX9_lineNow 1 RX9 (some .int)) (k : (∃ (r2 : Int32) (s1 : ZS), Ev l ad D ia d mX9_is [.ref (ad 20 0), .int 5, .int 103, .int 117, .int 101, .int 115] s (some (.int r2)) s1 ∧ ((r2 = 0 → (∃ (r6 : Int32) (s5 : ZS), Ev l ad D ia d mX9_is [.ref (ad 20 0), .int 6, .int 110, .int 101, .int 112, .int 104] s1 (some (.int r6)) s5 ∧ ((r6 = 0 → Z l ad D ia C X Y 58 [(0, .ref (ad 20 0))] [] s5) ∧ (¬ r6 = 0 → (∃ (r10 : Int32) (s9 : ZS), Ev l ad D ia d mX9_ends [.ref (ad 20 0), .int 101, .int 119] s5 (some (.int r10)) s9 ∧ ((r10 = 0 → Z l ad D ia C X Y 58 [(0, .ref (ad 20 0))] [] s9) ∧ (¬ r10 = 0 → (X = some (.int 1) ∧ Y = s9)))))))) ∧ (¬ r2 = 0 → (∃ (r14 : Int32) (s13 : ZS), Ev l ad D ia d mX9_ends [.ref (ad 20 0), .int 116, .int 0] s1 (some (.int r14)) s13 ∧ ((r14 = 0 → (∃ (r18 : Int32) (s17 : ZS), Ev l ad D ia d mX9_is [.ref (ad 20 0), .int 6, .int 110, .int 101, .int 112, .int 104] s13 (some (.int r18)) s17 ∧ ((r18 = 0 → Z l ad D ia C X Y 58 [(0, .ref (ad 20 0))] [] s17) ∧ (¬ r18 = 0 → (∃ (r22 : Int32) (s21 : ZS), Ev l ad D ia d mX9_ends [.ref (ad 20 0), .int 101, .int 119] s17 (some (.int r22)) s21 ∧ ((r22 = 0 → Z l ad D ia C X Y 58 [(0, .ref (ad 20 0))] [] s21) ∧ (¬ r22 = 0 → (X = some (.int 1) ∧ Y = s21)))))))) ∧ (¬ r14 = 0 → (X = some (.int 0) ∧ Y = s13)))))))) : Z l ad D ia C X Y 0 [(0, .ref (ad 20 0))] [] s := by
  refine Z_aload_n hC dX9_lineNow_0 rfl rfl ?_
  refine Z_iconst (v := 5) hC dX9_lineNow_1 rfl ?_
  refine Z_bipush (v := 103) hC dX9_lineNow_2 rfl ?_
  refine Z_bipush (v := 117) hC dX9_lineNow_4 rfl ?_
  refine Z_bipush (v := 101) hC dX9_lineNow_6 rfl ?_
  refine Z_bipush (v := 115) hC dX9_lineNow_8 rfl ?_
  obtain ⟨r2, s1, h3, k⟩ := k
  refine Z_callV (As := [.int 5, .int 103, .int 117, .int 101, .int 115]) (rest := []) hC h3 cvX9_101 ⟨9, rfl, zs_9, _, rfl, rfl⟩ rfl rfl (Nat.le_of_ble_eq_true rfl) dX9_lineNow_10 ?_
  refine Z_if_eq (tgt := 28) hC dX9_lineNow_13 (by decide) (fun c4 => ?_) (fun c4 => ?_)
  · have k := k.1 c4
    refine Z_aload_n hC dX9_lineNow_28 rfl rfl ?_
    refine Z_bipush (v := 6) hC dX9_lineNow_29 rfl ?_
    refine Z_bipush (v := 110) hC dX9_lineNow_31 rfl ?_
    refine Z_bipush (v := 101) hC dX9_lineNow_33 rfl ?_
    refine Z_bipush (v := 112) hC dX9_lineNow_35 rfl ?_
    refine Z_bipush (v := 104) hC dX9_lineNow_37 rfl ?_
    obtain ⟨r6, s5, h7, k⟩ := k
    refine Z_callV (As := [.int 6, .int 110, .int 101, .int 112, .int 104]) (rest := []) hC h7 cvX9_101 ⟨9, rfl, zs_9, _, rfl, rfl⟩ rfl rfl (Nat.le_of_ble_eq_true rfl) dX9_lineNow_39 ?_
    refine Z_if_eq (tgt := 58) hC dX9_lineNow_42 (by decide) (fun c8 => ?_) (fun c8 => ?_)
    · have k := k.1 c8
      exact k
    · have k := k.2 c8
      refine Z_aload_n hC dX9_lineNow_45 rfl rfl ?_
      refine Z_bipush (v := 101) hC dX9_lineNow_46 rfl ?_
      refine Z_bipush (v := 119) hC dX9_lineNow_48 rfl ?_
      obtain ⟨r10, s9, h11, k⟩ := k
      refine Z_callV (As := [.int 101, .int 119]) (rest := []) hC h11 cvX9_105 ⟨9, rfl, zs_9, _, rfl, rfl⟩ rfl rfl (Nat.le_of_ble_eq_true rfl) dX9_lineNow_50 ?_
      refine Z_if_eq (tgt := 58) hC dX9_lineNow_53 (by decide) (fun c12 => ?_) (fun c12 => ?_)
      · have k := k.1 c12
        exact k
      · have k := k.2 c12
        refine Z_iconst (v := 1) hC dX9_lineNow_56 rfl ?_
        exact Z_iret hC dX9_lineNow_57 k.1 k.2
  · have k := k.2 c4
    refine Z_aload_n hC dX9_lineNow_16 rfl rfl ?_
    refine Z_bipush (v := 116) hC dX9_lineNow_17 rfl ?_
    refine Z_iconst (v := 0) hC dX9_lineNow_19 rfl ?_
    obtain ⟨r14, s13, h15, k⟩ := k
    refine Z_callV (As := [.int 116, .int 0]) (rest := []) hC h15 cvX9_105 ⟨9, rfl, zs_9, _, rfl, rfl⟩ rfl rfl (Nat.le_of_ble_eq_true rfl) dX9_lineNow_20 ?_
    refine Z_if_eq (tgt := 28) hC dX9_lineNow_23 (by decide) (fun c16 => ?_) (fun c16 => ?_)
    · have k := k.1 c16
      refine Z_aload_n hC dX9_lineNow_28 rfl rfl ?_
      refine Z_bipush (v := 6) hC dX9_lineNow_29 rfl ?_
      refine Z_bipush (v := 110) hC dX9_lineNow_31 rfl ?_
      refine Z_bipush (v := 101) hC dX9_lineNow_33 rfl ?_
      refine Z_bipush (v := 112) hC dX9_lineNow_35 rfl ?_
      refine Z_bipush (v := 104) hC dX9_lineNow_37 rfl ?_
      obtain ⟨r18, s17, h19, k⟩ := k
      refine Z_callV (As := [.int 6, .int 110, .int 101, .int 112, .int 104]) (rest := []) hC h19 cvX9_101 ⟨9, rfl, zs_9, _, rfl, rfl⟩ rfl rfl (Nat.le_of_ble_eq_true rfl) dX9_lineNow_39 ?_
      refine Z_if_eq (tgt := 58) hC dX9_lineNow_42 (by decide) (fun c20 => ?_) (fun c20 => ?_)
      · have k := k.1 c20
        exact k
      · have k := k.2 c20
        refine Z_aload_n hC dX9_lineNow_45 rfl rfl ?_
        refine Z_bipush (v := 101) hC dX9_lineNow_46 rfl ?_
        refine Z_bipush (v := 119) hC dX9_lineNow_48 rfl ?_
        obtain ⟨r22, s21, h23, k⟩ := k
        refine Z_callV (As := [.int 101, .int 119]) (rest := []) hC h23 cvX9_105 ⟨9, rfl, zs_9, _, rfl, rfl⟩ rfl rfl (Nat.le_of_ble_eq_true rfl) dX9_lineNow_50 ?_
        refine Z_if_eq (tgt := 58) hC dX9_lineNow_53 (by decide) (fun c24 => ?_) (fun c24 => ?_)
        · have k := k.1 c24
          exact k
        · have k := k.2 c24
          refine Z_iconst (v := 1) hC dX9_lineNow_56 rfl ?_
          exact Z_iret hC dX9_lineNow_57 k.1 k.2
    · have k := k.2 c16
      refine Z_iconst (v := 0) hC dX9_lineNow_26 rfl ?_
      exact Z_iret hC dX9_lineNow_27 k.1 k.2
theorem eX9_lineNow {X : Option Value} {Y : ZS} {s : ZS} (k : ∀ C : ZC, Zok ad D ia C (d + 1) cX9_lineNow 1 RX9 (some .int) → (∃ (r2 : Int32) (s1 : ZS), Ev l ad D ia d mX9_is [.ref (ad 20 0), .int 5, .int 103, .int 117, .int 101, .int 115] s (some (.int r2)) s1 ∧ ((r2 = 0 → (∃ (r6 : Int32) (s5 : ZS), Ev l ad D ia d mX9_is [.ref (ad 20 0), .int 6, .int 110, .int 101, .int 112, .int 104] s1 (some (.int r6)) s5 ∧ ((r6 = 0 → Z l ad D ia C X Y 58 [(0, .ref (ad 20 0))] [] s5) ∧ (¬ r6 = 0 → (∃ (r10 : Int32) (s9 : ZS), Ev l ad D ia d mX9_ends [.ref (ad 20 0), .int 101, .int 119] s5 (some (.int r10)) s9 ∧ ((r10 = 0 → Z l ad D ia C X Y 58 [(0, .ref (ad 20 0))] [] s9) ∧ (¬ r10 = 0 → (X = some (.int 1) ∧ Y = s9)))))))) ∧ (¬ r2 = 0 → (∃ (r14 : Int32) (s13 : ZS), Ev l ad D ia d mX9_ends [.ref (ad 20 0), .int 116, .int 0] s1 (some (.int r14)) s13 ∧ ((r14 = 0 → (∃ (r18 : Int32) (s17 : ZS), Ev l ad D ia d mX9_is [.ref (ad 20 0), .int 6, .int 110, .int 101, .int 112, .int 104] s13 (some (.int r18)) s17 ∧ ((r18 = 0 → Z l ad D ia C X Y 58 [(0, .ref (ad 20 0))] [] s17) ∧ (¬ r18 = 0 → (∃ (r22 : Int32) (s21 : ZS), Ev l ad D ia d mX9_ends [.ref (ad 20 0), .int 101, .int 119] s17 (some (.int r22)) s21 ∧ ((r22 = 0 → Z l ad D ia C X Y 58 [(0, .ref (ad 20 0))] [] s21) ∧ (¬ r22 = 0 → (X = some (.int 1) ∧ Y = s21)))))))) ∧ (¬ r14 = 0 → (X = some (.int 0) ∧ Y = s13)))))))) : Ev l ad D ia (d + 1) mX9_lineNow [.ref (ad 20 0)] s X Y :=
  Ev.start (by decide +kernel) (Nat.le_of_ble_eq_true rfl) (fun C hC => bX9_lineNow_0  hC (k C hC))
set_option maxRecDepth 100000 in
set_option maxHeartbeats 4000000 in
theorem bX9_lineNow_58 {C : ZC} {X : Option Value} {Y : ZS} {s : ZS} (hC : Zok ad D ia C (d + 1) cX9_lineNow 1 RX9 (some .int)) (k : (∃ (r2 : Int32) (s1 : ZS), Ev l ad D ia d mX9_is [.ref (ad 20 0), .int 4, .int 108, .int 111, .int 114, .int 100] s (some (.int r2)) s1 ∧ ((r2 = 0 → (∃ (r6 : Int32) (s5 : ZS), Ev l ad D ia d mX9_is [.ref (ad 20 0), .int 4, .int 109, .int 97, .int 105, .int 100] s1 (some (.int r6)) s5 ∧ ((r6 = 0 → (∃ (r10 : Int32) (s9 : ZS), Ev l ad D ia d mX9_is [.ref (ad 20 0), .int 4, .int 98, .int 111, .int 111, .int 107] s5 (some (.int r10)) s9 ∧ ((r10 = 0 → (∃ (r14 : Int32) (s13 : ZS), Ev l ad D ia d mX9_is [.ref (ad 20 0), .int 5, .int 115, .int 116, .int 101, .int 112] s9 (some (.int r14)) s13 ∧ ((r14 = 0 → (X = some (.int ((-4))) ∧ Y = s13)) ∧ (¬ r14 = 0 → (∃ (r18 : Int32) (s17 : ZS), Ev l ad D ia d mX9_ends [.ref (ad 20 0), .int 115, .int 0] s13 (some (.int r18)) s17 ∧ ((r18 = 0 → (X = some (.int ((-4))) ∧ Y = s17)) ∧ (¬ r18 = 0 → (X = some (.int 5) ∧ Y = s17)))))))) ∧ (¬ r10 = 0 → (X = some (.int 4) ∧ Y = s9))))) ∧ (¬ r6 = 0 → (X = some (.int 3) ∧ Y = s5))))) ∧ (¬ r2 = 0 → (X = some (.int 2) ∧ Y = s1))))) : Z l ad D ia C X Y 58 [(0, .ref (ad 20 0))] [] s := by
  refine Z_aload_n hC dX9_lineNow_58 rfl rfl ?_
  refine Z_iconst (v := 4) hC dX9_lineNow_59 rfl ?_
  refine Z_bipush (v := 108) hC dX9_lineNow_60 rfl ?_
  refine Z_bipush (v := 111) hC dX9_lineNow_62 rfl ?_
  refine Z_bipush (v := 114) hC dX9_lineNow_64 rfl ?_
  refine Z_bipush (v := 100) hC dX9_lineNow_66 rfl ?_
  obtain ⟨r2, s1, h3, k⟩ := k
  refine Z_callV (As := [.int 4, .int 108, .int 111, .int 114, .int 100]) (rest := []) hC h3 cvX9_101 ⟨9, rfl, zs_9, _, rfl, rfl⟩ rfl rfl (Nat.le_of_ble_eq_true rfl) dX9_lineNow_68 ?_
  refine Z_if_eq (tgt := 76) hC dX9_lineNow_71 (by decide) (fun c4 => ?_) (fun c4 => ?_)
  · have k := k.1 c4
    refine Z_aload_n hC dX9_lineNow_76 rfl rfl ?_
    refine Z_iconst (v := 4) hC dX9_lineNow_77 rfl ?_
    refine Z_bipush (v := 109) hC dX9_lineNow_78 rfl ?_
    refine Z_bipush (v := 97) hC dX9_lineNow_80 rfl ?_
    refine Z_bipush (v := 105) hC dX9_lineNow_82 rfl ?_
    refine Z_bipush (v := 100) hC dX9_lineNow_84 rfl ?_
    obtain ⟨r6, s5, h7, k⟩ := k
    refine Z_callV (As := [.int 4, .int 109, .int 97, .int 105, .int 100]) (rest := []) hC h7 cvX9_101 ⟨9, rfl, zs_9, _, rfl, rfl⟩ rfl rfl (Nat.le_of_ble_eq_true rfl) dX9_lineNow_86 ?_
    refine Z_if_eq (tgt := 94) hC dX9_lineNow_89 (by decide) (fun c8 => ?_) (fun c8 => ?_)
    · have k := k.1 c8
      refine Z_aload_n hC dX9_lineNow_94 rfl rfl ?_
      refine Z_iconst (v := 4) hC dX9_lineNow_95 rfl ?_
      refine Z_bipush (v := 98) hC dX9_lineNow_96 rfl ?_
      refine Z_bipush (v := 111) hC dX9_lineNow_98 rfl ?_
      refine Z_bipush (v := 111) hC dX9_lineNow_100 rfl ?_
      refine Z_bipush (v := 107) hC dX9_lineNow_102 rfl ?_
      obtain ⟨r10, s9, h11, k⟩ := k
      refine Z_callV (As := [.int 4, .int 98, .int 111, .int 111, .int 107]) (rest := []) hC h11 cvX9_101 ⟨9, rfl, zs_9, _, rfl, rfl⟩ rfl rfl (Nat.le_of_ble_eq_true rfl) dX9_lineNow_104 ?_
      refine Z_if_eq (tgt := 114) hC dX9_lineNow_107 (by decide) (fun c12 => ?_) (fun c12 => ?_)
      · have k := k.1 c12
        refine Z_aload_n hC dX9_lineNow_114 rfl rfl ?_
        refine Z_iconst (v := 5) hC dX9_lineNow_115 rfl ?_
        refine Z_bipush (v := 115) hC dX9_lineNow_116 rfl ?_
        refine Z_bipush (v := 116) hC dX9_lineNow_118 rfl ?_
        refine Z_bipush (v := 101) hC dX9_lineNow_120 rfl ?_
        refine Z_bipush (v := 112) hC dX9_lineNow_122 rfl ?_
        obtain ⟨r14, s13, h15, k⟩ := k
        refine Z_callV (As := [.int 5, .int 115, .int 116, .int 101, .int 112]) (rest := []) hC h15 cvX9_101 ⟨9, rfl, zs_9, _, rfl, rfl⟩ rfl rfl (Nat.le_of_ble_eq_true rfl) dX9_lineNow_124 ?_
        refine Z_if_eq (tgt := 144) hC dX9_lineNow_127 (by decide) (fun c16 => ?_) (fun c16 => ?_)
        · have k := k.1 c16
          refine Z_bipush (v := (-4)) hC dX9_lineNow_144 rfl ?_
          exact Z_iret hC dX9_lineNow_146 k.1 k.2
        · have k := k.2 c16
          refine Z_aload_n hC dX9_lineNow_130 rfl rfl ?_
          refine Z_bipush (v := 115) hC dX9_lineNow_131 rfl ?_
          refine Z_iconst (v := 0) hC dX9_lineNow_133 rfl ?_
          obtain ⟨r18, s17, h19, k⟩ := k
          refine Z_callV (As := [.int 115, .int 0]) (rest := []) hC h19 cvX9_105 ⟨9, rfl, zs_9, _, rfl, rfl⟩ rfl rfl (Nat.le_of_ble_eq_true rfl) dX9_lineNow_134 ?_
          refine Z_if_eq (tgt := 144) hC dX9_lineNow_137 (by decide) (fun c20 => ?_) (fun c20 => ?_)
          · have k := k.1 c20
            refine Z_bipush (v := (-4)) hC dX9_lineNow_144 rfl ?_
            exact Z_iret hC dX9_lineNow_146 k.1 k.2
          · have k := k.2 c20
            refine Z_iconst (v := 5) hC dX9_lineNow_140 rfl ?_
            refine Z_goto (tgt := 146) hC dX9_lineNow_141 (by decide) ?_
            exact Z_iret hC dX9_lineNow_146 k.1 k.2
      · have k := k.2 c12
        refine Z_iconst (v := 4) hC dX9_lineNow_110 rfl ?_
        refine Z_goto (tgt := 146) hC dX9_lineNow_111 (by decide) ?_
        exact Z_iret hC dX9_lineNow_146 k.1 k.2
    · have k := k.2 c8
      refine Z_iconst (v := 3) hC dX9_lineNow_92 rfl ?_
      exact Z_iret hC dX9_lineNow_93 k.1 k.2
  · have k := k.2 c4
    refine Z_iconst (v := 2) hC dX9_lineNow_74 rfl ?_
    exact Z_iret hC dX9_lineNow_75 k.1 k.2
set_option maxRecDepth 100000 in
set_option maxHeartbeats 4000000 in
theorem bX9_takes_0 {C : ZC} {X : Option Value} {Y : ZS} {s : ZS} (hC : Zok ad D ia C (d + 1) cX9_takes 2 RX9 none) (k : ((((s 20).1 16) ≤ 0 → Z l ad D ia C X Y 8 [(0, .ref (ad 20 0))] [] s) ∧ (¬ ((s 20).1 16) ≤ 0 → (X = none ∧ Y = s)))) : Z l ad D ia C X Y 0 [(0, .ref (ad 20 0))] [] s := by
  refine Z_aload_n hC dX9_takes_0 rfl rfl ?_
  refine Z_get (o := 20) (c := 9) (k := 16) (v := .int ((s 20).1 16)) hC rfl zs_9 lkX9_85 rfl dX9_takes_1 ?_
  refine Z_if_le (tgt := 8) hC dX9_takes_4 (by decide) (fun c1 => ?_) (fun c1 => ?_)
  · have k := k.1 c1
    exact k
  · have k := k.2 c1
    exact Z_vret hC dX9_takes_7 k.1 k.2
theorem eX9_takes {X : Option Value} {Y : ZS} {s : ZS} (k : ∀ C : ZC, Zok ad D ia C (d + 1) cX9_takes 2 RX9 none → ((((s 20).1 16) ≤ 0 → Z l ad D ia C X Y 8 [(0, .ref (ad 20 0))] [] s) ∧ (¬ ((s 20).1 16) ≤ 0 → (X = none ∧ Y = s)))) : Ev l ad D ia (d + 1) mX9_takes [.ref (ad 20 0)] s X Y :=
  Ev.start (by decide +kernel) (Nat.le_of_ble_eq_true rfl) (fun C hC => bX9_takes_0  hC (k C hC))
set_option maxRecDepth 100000 in
set_option maxHeartbeats 4000000 in
theorem bX9_takes_8 {C : ZC} {X : Option Value} {Y : ZS} {s : ZS} (hC : Zok ad D ia C (d + 1) cX9_takes 2 RX9 none) (k : (∃ (r2 : Int32) (s1 : ZS), Ev l ad D ia d mX9_byteAt [.ref (ad 20 0), .int ((s 20).1 12)] s (some (.int r2)) s1 ∧ ((¬ r2 = 32 → (∀ s5 : ZS, s5 = stI s1 20 13 ((s1 20).1 12) → (∃ (r7 : Int32) (s6 : ZS), Ev l ad D ia d mX9_byteAt [.ref (ad 20 0), .int ((s5 20).1 12)] s5 (some (.int r7)) s6 ∧ ((0 ≤ r7 → (∃ (r11 : Int32) (s10 : ZS), Ev l ad D ia d mX9_in [.long r7.toInt64, .long ((97)), .long ((122))] s6 (some (.int r11)) s10 ∧ ((r11 = 0 → (∃ (r15 : Int32) (s14 : ZS), Ev l ad D ia d mX9_in [.long r7.toInt64, .long ((48)), .long ((57))] s10 (some (.int r15)) s14 ∧ ((r15 = 0 → (∀ s18 : ZS, s18 = stI s14 20 14 3 → ((¬ r7 = 59 → (∃ s20 : ZS, Ev l ad D ia d mX9_needs [.ref (ad 20 0), .int 0, .int 1] s18 none s20 ∧ (∀ s22 : ZS, s22 = stI s20 20 12 (((s20 20).1 12) + 1) → (X = none ∧ Y = s22)))) ∧ (r7 = 59 → (∃ s23 : ZS, Ev l ad D ia d mX9_needs [.ref (ad 20 0), .int 1, .int 1] s18 none s23 ∧ (∀ s25 : ZS, s25 = stI s23 20 12 (((s23 20).1 12) + 1) → (X = none ∧ Y = s25))))))) ∧ (¬ r15 = 0 → (∀ s26 : ZS, s26 = stI s14 20 14 2 → (∀ s27 : ZS, s27 = stI s26 20 15 0 → Z l ad D ia C X Y 140 [(0, .ref (ad 20 0))] [] s27)))))) ∧ (¬ r11 = 0 → (∀ s28 : ZS, s28 = stI s10 20 14 1 → Z l ad D ia C X Y 82 [(0, .ref (ad 20 0))] [] s28))))) ∧ (¬ 0 ≤ r7 → (∀ s29 : ZS, s29 = stI s6 20 14 0 → (X = none ∧ Y = s29))))))) ∧ (r2 = 32 → (∀ s30 : ZS, s30 = stI s1 20 12 (((s1 20).1 12) + 1) → Z l ad D ia C X Y 8 [(0, .ref (ad 20 0))] [] s30))))) : Z l ad D ia C X Y 8 [(0, .ref (ad 20 0))] [] s := by
  refine Z_aload_n hC dX9_takes_8 rfl rfl ?_
  refine Z_aload_n hC dX9_takes_9 rfl rfl ?_
  refine Z_get (o := 20) (c := 9) (k := 12) (v := .int ((s 20).1 12)) hC rfl zs_9 lkX9_94 rfl dX9_takes_10 ?_
  obtain ⟨r2, s1, h3, k⟩ := k
  refine Z_callV (As := [.int ((s 20).1 12)]) (rest := []) hC h3 cvX9_97 ⟨9, rfl, zs_9, _, rfl, rfl⟩ rfl rfl (Nat.le_of_ble_eq_true rfl) dX9_takes_13 ?_
  refine Z_bipush (v := 32) hC dX9_takes_16 rfl ?_
  refine Z_icmp_ne (tgt := 34) hC dX9_takes_18 (by decide) (fun c4 => ?_) (fun c4 => ?_)
  · have k := k.1 c4
    refine Z_aload_n hC dX9_takes_34 rfl rfl ?_
    refine Z_aload_n hC dX9_takes_35 rfl rfl ?_
    refine Z_get (o := 20) (c := 9) (k := 12) (v := .int ((s1 20).1 12)) hC rfl zs_9 lkX9_94 rfl dX9_takes_36 ?_
    refine Z_putI (o := 20) (k := 13) hC rfl zs_9 pkX9_88 rfl rfl (hsX9_13 _ _ _) dX9_takes_39 (fun s5 es5 => ?_)
    have k := k s5 es5
    refine Z_aload_n hC dX9_takes_42 rfl rfl ?_
    refine Z_aload_n hC dX9_takes_43 rfl rfl ?_
    refine Z_get (o := 20) (c := 9) (k := 12) (v := .int ((s5 20).1 12)) hC rfl zs_9 lkX9_94 rfl dX9_takes_44 ?_
    obtain ⟨r7, s6, h8, k⟩ := k
    refine Z_callV (As := [.int ((s5 20).1 12)]) (rest := []) hC h8 cvX9_97 ⟨9, rfl, zs_9, _, rfl, rfl⟩ rfl rfl (Nat.le_of_ble_eq_true rfl) dX9_takes_47 ?_
    refine Z_istore_n (V2 := [(1, .int r7), (0, .ref (ad 20 0))]) hC dX9_takes_50 rfl (by decide) rfl ?_
    refine Z_iload_n hC dX9_takes_51 rfl rfl ?_
    refine Z_if_ge (tgt := 63) hC dX9_takes_52 (by decide) (fun c9 => ?_) (fun c9 => ?_)
    · have k := k.1 c9
      refine Z_iload_n hC dX9_takes_63 rfl rfl ?_
      refine Z_i2l hC dX9_takes_64 ?_
      refine Z_ldc2 hC clX9_112 dX9_takes_65 ?_
      refine Z_ldc2 hC clX9_114 dX9_takes_68 ?_
      obtain ⟨r11, s10, h12, k⟩ := k
      refine Z_callS (As := [.long r7.toInt64, .long ((97)), .long ((122))]) (rest := []) hC h12 csX9_78 rfl rfl (Nat.le_of_ble_eq_true rfl) dX9_takes_71 ?_
      refine Z_if_eq (tgt := 116) hC dX9_takes_74 (by decide) (fun c13 => ?_) (fun c13 => ?_)
      · have k := k.1 c13
        refine Z_iload_n hC dX9_takes_116 rfl rfl ?_
        refine Z_i2l hC dX9_takes_117 ?_
        refine Z_ldc2 hC clX9_116 dX9_takes_118 ?_
        refine Z_ldc2 hC clX9_118 dX9_takes_121 ?_
        obtain ⟨r15, s14, h16, k⟩ := k
        refine Z_callS (As := [.long r7.toInt64, .long ((48)), .long ((57))]) (rest := []) hC h16 csX9_78 rfl rfl (Nat.le_of_ble_eq_true rfl) dX9_takes_124 ?_
        refine Z_if_eq (tgt := 243) hC dX9_takes_127 (by decide) (fun c17 => ?_) (fun c17 => ?_)
        · have k := k.1 c17
          refine Z_aload_n hC dX9_takes_243 rfl rfl ?_
          refine Z_iconst (v := 3) hC dX9_takes_244 rfl ?_
          refine Z_putI (o := 20) (k := 14) hC rfl zs_9 pkX9_109 rfl rfl (hsX9_14 _ _ _) dX9_takes_245 (fun s18 es18 => ?_)
          have k := k s18 es18
          refine Z_aload_n hC dX9_takes_248 rfl rfl ?_
          refine Z_iload_n hC dX9_takes_249 rfl rfl ?_
          refine Z_bipush (v := 59) hC dX9_takes_250 rfl ?_
          refine Z_icmp_ne (tgt := 259) hC dX9_takes_252 (by decide) (fun c19 => ?_) (fun c19 => ?_)
          · have k := k.1 c19
            refine Z_iconst (v := 0) hC dX9_takes_259 rfl ?_
            refine Z_iconst (v := 1) hC dX9_takes_260 rfl ?_
            obtain ⟨s20, h21, k⟩ := k
            refine Z_callV (As := [.int 0, .int 1]) (rest := []) hC h21 cvX9_123 ⟨9, rfl, zs_9, _, rfl, rfl⟩ rfl rfl (Nat.le_of_ble_eq_true rfl) dX9_takes_261 ?_
            refine Z_aload_n hC dX9_takes_264 rfl rfl ?_
            refine Z_dup hC dX9_takes_265 rfl ?_
            refine Z_get (o := 20) (c := 9) (k := 12) (v := .int ((s20 20).1 12)) hC rfl zs_9 lkX9_94 rfl dX9_takes_266 ?_
            refine Z_iconst (v := 1) hC dX9_takes_269 rfl ?_
            refine Z_iadd hC dX9_takes_270 ?_
            refine Z_putI (o := 20) (k := 12) hC rfl zs_9 pkX9_94 rfl rfl (hsX9_12 _ _ _) dX9_takes_271 (fun s22 es22 => ?_)
            have k := k s22 es22
            exact Z_vret hC dX9_takes_274 k.1 k.2
          · have k := k.2 c19
            refine Z_iconst (v := 1) hC dX9_takes_255 rfl ?_
            refine Z_goto (tgt := 260) hC dX9_takes_256 (by decide) ?_
            refine Z_iconst (v := 1) hC dX9_takes_260 rfl ?_
            obtain ⟨s23, h24, k⟩ := k
            refine Z_callV (As := [.int 1, .int 1]) (rest := []) hC h24 cvX9_123 ⟨9, rfl, zs_9, _, rfl, rfl⟩ rfl rfl (Nat.le_of_ble_eq_true rfl) dX9_takes_261 ?_
            refine Z_aload_n hC dX9_takes_264 rfl rfl ?_
            refine Z_dup hC dX9_takes_265 rfl ?_
            refine Z_get (o := 20) (c := 9) (k := 12) (v := .int ((s23 20).1 12)) hC rfl zs_9 lkX9_94 rfl dX9_takes_266 ?_
            refine Z_iconst (v := 1) hC dX9_takes_269 rfl ?_
            refine Z_iadd hC dX9_takes_270 ?_
            refine Z_putI (o := 20) (k := 12) hC rfl zs_9 pkX9_94 rfl rfl (hsX9_12 _ _ _) dX9_takes_271 (fun s25 es25 => ?_)
            have k := k s25 es25
            exact Z_vret hC dX9_takes_274 k.1 k.2
        · have k := k.2 c17
          refine Z_aload_n hC dX9_takes_130 rfl rfl ?_
          refine Z_iconst (v := 2) hC dX9_takes_131 rfl ?_
          refine Z_putI (o := 20) (k := 14) hC rfl zs_9 pkX9_109 rfl rfl (hsX9_14 _ _ _) dX9_takes_132 (fun s26 es26 => ?_)
          have k := k s26 es26
          refine Z_aload_n hC dX9_takes_135 rfl rfl ?_
          refine Z_iconst (v := 0) hC dX9_takes_136 rfl ?_
          refine Z_putI (o := 20) (k := 15) hC rfl zs_9 pkX9_120 rfl rfl (hsX9_15 _ _ _) dX9_takes_137 (fun s27 es27 => ?_)
          have k := k s27 es27
          exact Z_pick [1] rfl k
      · have k := k.2 c13
        refine Z_aload_n hC dX9_takes_77 rfl rfl ?_
        refine Z_iconst (v := 1) hC dX9_takes_78 rfl ?_
        refine Z_putI (o := 20) (k := 14) hC rfl zs_9 pkX9_109 rfl rfl (hsX9_14 _ _ _) dX9_takes_79 (fun s28 es28 => ?_)
        have k := k s28 es28
        exact Z_pick [1] rfl k
    · have k := k.2 c9
      refine Z_aload_n hC dX9_takes_55 rfl rfl ?_
      refine Z_iconst (v := 0) hC dX9_takes_56 rfl ?_
      refine Z_putI (o := 20) (k := 14) hC rfl zs_9 pkX9_109 rfl rfl (hsX9_14 _ _ _) dX9_takes_57 (fun s29 es29 => ?_)
      have k := k s29 es29
      refine Z_goto (tgt := 274) hC dX9_takes_60 (by decide) ?_
      exact Z_vret hC dX9_takes_274 k.1 k.2
  · have k := k.2 c4
    refine Z_aload_n hC dX9_takes_21 rfl rfl ?_
    refine Z_dup hC dX9_takes_22 rfl ?_
    refine Z_get (o := 20) (c := 9) (k := 12) (v := .int ((s1 20).1 12)) hC rfl zs_9 lkX9_94 rfl dX9_takes_23 ?_
    refine Z_iconst (v := 1) hC dX9_takes_26 rfl ?_
    refine Z_iadd hC dX9_takes_27 ?_
    refine Z_putI (o := 20) (k := 12) hC rfl zs_9 pkX9_94 rfl rfl (hsX9_12 _ _ _) dX9_takes_28 (fun s30 es30 => ?_)
    have k := k s30 es30
    refine Z_goto (tgt := 8) hC dX9_takes_31 (by decide) ?_
    exact k
set_option maxRecDepth 100000 in
set_option maxHeartbeats 4000000 in
theorem bX9_takes_82 {C : ZC} {X : Option Value} {Y : ZS} {s : ZS} (hC : Zok ad D ia C (d + 1) cX9_takes 2 RX9 none) (k : (∃ (r2 : Int32) (s1 : ZS), Ev l ad D ia d mX9_byteAt [.ref (ad 20 0), .int ((s 20).1 12)] s (some (.int r2)) s1 ∧ (∃ (r5 : Int32) (s4 : ZS), Ev l ad D ia d mX9_in [.long r2.toInt64, .long ((97)), .long ((122))] s1 (some (.int r5)) s4 ∧ ((r5 = 0 → (X = none ∧ Y = s4)) ∧ (¬ r5 = 0 → (∀ s8 : ZS, s8 = stI s4 20 12 (((s4 20).1 12) + 1) → Z l ad D ia C X Y 82 [(0, .ref (ad 20 0))] [] s8)))))) : Z l ad D ia C X Y 82 [(0, .ref (ad 20 0))] [] s := by
  refine Z_aload_n hC dX9_takes_82 rfl rfl ?_
  refine Z_aload_n hC dX9_takes_83 rfl rfl ?_
  refine Z_get (o := 20) (c := 9) (k := 12) (v := .int ((s 20).1 12)) hC rfl zs_9 lkX9_94 rfl dX9_takes_84 ?_
  obtain ⟨r2, s1, h3, k⟩ := k
  refine Z_callV (As := [.int ((s 20).1 12)]) (rest := []) hC h3 cvX9_97 ⟨9, rfl, zs_9, _, rfl, rfl⟩ rfl rfl (Nat.le_of_ble_eq_true rfl) dX9_takes_87 ?_
  refine Z_i2l hC dX9_takes_90 ?_
  refine Z_ldc2 hC clX9_112 dX9_takes_91 ?_
  refine Z_ldc2 hC clX9_114 dX9_takes_94 ?_
  obtain ⟨r5, s4, h6, k⟩ := k
  refine Z_callS (As := [.long r2.toInt64, .long ((97)), .long ((122))]) (rest := []) hC h6 csX9_78 rfl rfl (Nat.le_of_ble_eq_true rfl) dX9_takes_97 ?_
  refine Z_if_eq (tgt := 274) hC dX9_takes_100 (by decide) (fun c7 => ?_) (fun c7 => ?_)
  · have k := k.1 c7
    exact Z_vret hC dX9_takes_274 k.1 k.2
  · have k := k.2 c7
    refine Z_aload_n hC dX9_takes_103 rfl rfl ?_
    refine Z_dup hC dX9_takes_104 rfl ?_
    refine Z_get (o := 20) (c := 9) (k := 12) (v := .int ((s4 20).1 12)) hC rfl zs_9 lkX9_94 rfl dX9_takes_105 ?_
    refine Z_iconst (v := 1) hC dX9_takes_108 rfl ?_
    refine Z_iadd hC dX9_takes_109 ?_
    refine Z_putI (o := 20) (k := 12) hC rfl zs_9 pkX9_94 rfl rfl (hsX9_12 _ _ _) dX9_takes_110 (fun s8 es8 => ?_)
    have k := k s8 es8
    refine Z_goto (tgt := 82) hC dX9_takes_113 (by decide) ?_
    exact k
set_option maxRecDepth 100000 in
set_option maxHeartbeats 4000000 in
theorem bX9_takes_140 {C : ZC} {X : Option Value} {Y : ZS} {s : ZS} (hC : Zok ad D ia C (d + 1) cX9_takes 2 RX9 none) (k : (∃ (r2 : Int32) (s1 : ZS), Ev l ad D ia d mX9_byteAt [.ref (ad 20 0), .int ((s 20).1 12)] s (some (.int r2)) s1 ∧ (∃ (r5 : Int32) (s4 : ZS), Ev l ad D ia d mX9_in [.long r2.toInt64, .long ((48)), .long ((57))] s1 (some (.int r5)) s4 ∧ ((r5 = 0 → ((2 < (((s4 20).1 12) - ((s4 20).1 13)) → (∃ s9 : ZS, Ev l ad D ia d mX9_needs [.ref (ad 20 0), .int 0, .int 1] s4 none s9 ∧ (X = none ∧ Y = s9))) ∧ (¬ 2 < (((s4 20).1 12) - ((s4 20).1 13)) → (∃ s11 : ZS, Ev l ad D ia d mX9_needs [.ref (ad 20 0), .int 1, .int 1] s4 none s11 ∧ (X = none ∧ Y = s11))))) ∧ (¬ r5 = 0 → ((2 ≤ (((s4 20).1 12) - ((s4 20).1 13)) → (∀ s14 : ZS, s14 = stI s4 20 15 ((s4 20).1 15) → (∀ s15 : ZS, s15 = stI s14 20 12 (((s14 20).1 12) + 1) → Z l ad D ia C X Y 140 [(0, .ref (ad 20 0))] [] s15))) ∧ (¬ 2 ≤ (((s4 20).1 12) - ((s4 20).1 13)) → (∃ (r17 : Int32) (s16 : ZS), Ev l ad D ia d mX9_byteAt [.ref (ad 20 0), .int ((s4 20).1 12)] s4 (some (.int r17)) s16 ∧ (∀ s19 : ZS, s19 = stI s16 20 15 (((10 * ((s4 20).1 15)) + r17) - 48) → (∀ s20 : ZS, s20 = stI s19 20 12 (((s19 20).1 12) + 1) → Z l ad D ia C X Y 140 [(0, .ref (ad 20 0))] [] s20)))))))))) : Z l ad D ia C X Y 140 [(0, .ref (ad 20 0))] [] s := by
  refine Z_aload_n hC dX9_takes_140 rfl rfl ?_
  refine Z_aload_n hC dX9_takes_141 rfl rfl ?_
  refine Z_get (o := 20) (c := 9) (k := 12) (v := .int ((s 20).1 12)) hC rfl zs_9 lkX9_94 rfl dX9_takes_142 ?_
  obtain ⟨r2, s1, h3, k⟩ := k
  refine Z_callV (As := [.int ((s 20).1 12)]) (rest := []) hC h3 cvX9_97 ⟨9, rfl, zs_9, _, rfl, rfl⟩ rfl rfl (Nat.le_of_ble_eq_true rfl) dX9_takes_145 ?_
  refine Z_i2l hC dX9_takes_148 ?_
  refine Z_ldc2 hC clX9_116 dX9_takes_149 ?_
  refine Z_ldc2 hC clX9_118 dX9_takes_152 ?_
  obtain ⟨r5, s4, h6, k⟩ := k
  refine Z_callS (As := [.long r2.toInt64, .long ((48)), .long ((57))]) (rest := []) hC h6 csX9_78 rfl rfl (Nat.le_of_ble_eq_true rfl) dX9_takes_155 ?_
  refine Z_if_eq (tgt := 217) hC dX9_takes_158 (by decide) (fun c7 => ?_) (fun c7 => ?_)
  · have k := k.1 c7
    refine Z_aload_n hC dX9_takes_217 rfl rfl ?_
    refine Z_aload_n hC dX9_takes_218 rfl rfl ?_
    refine Z_get (o := 20) (c := 9) (k := 12) (v := .int ((s4 20).1 12)) hC rfl zs_9 lkX9_94 rfl dX9_takes_219 ?_
    refine Z_aload_n hC dX9_takes_222 rfl rfl ?_
    refine Z_get (o := 20) (c := 9) (k := 13) (v := .int ((s4 20).1 13)) hC rfl zs_9 lkX9_88 rfl dX9_takes_223 ?_
    refine Z_isub hC dX9_takes_226 ?_
    refine Z_iconst (v := 2) hC dX9_takes_227 rfl ?_
    refine Z_icmp_gt (tgt := 235) hC dX9_takes_228 (by decide) (fun c8 => ?_) (fun c8 => ?_)
    · have k := k.1 c8
      refine Z_iconst (v := 0) hC dX9_takes_235 rfl ?_
      refine Z_iconst (v := 1) hC dX9_takes_236 rfl ?_
      obtain ⟨s9, h10, k⟩ := k
      refine Z_callV (As := [.int 0, .int 1]) (rest := []) hC h10 cvX9_123 ⟨9, rfl, zs_9, _, rfl, rfl⟩ rfl rfl (Nat.le_of_ble_eq_true rfl) dX9_takes_237 ?_
      refine Z_goto (tgt := 274) hC dX9_takes_240 (by decide) ?_
      exact Z_vret hC dX9_takes_274 k.1 k.2
    · have k := k.2 c8
      refine Z_iconst (v := 1) hC dX9_takes_231 rfl ?_
      refine Z_goto (tgt := 236) hC dX9_takes_232 (by decide) ?_
      refine Z_iconst (v := 1) hC dX9_takes_236 rfl ?_
      obtain ⟨s11, h12, k⟩ := k
      refine Z_callV (As := [.int 1, .int 1]) (rest := []) hC h12 cvX9_123 ⟨9, rfl, zs_9, _, rfl, rfl⟩ rfl rfl (Nat.le_of_ble_eq_true rfl) dX9_takes_237 ?_
      refine Z_goto (tgt := 274) hC dX9_takes_240 (by decide) ?_
      exact Z_vret hC dX9_takes_274 k.1 k.2
  · have k := k.2 c7
    refine Z_aload_n hC dX9_takes_161 rfl rfl ?_
    refine Z_aload_n hC dX9_takes_162 rfl rfl ?_
    refine Z_get (o := 20) (c := 9) (k := 12) (v := .int ((s4 20).1 12)) hC rfl zs_9 lkX9_94 rfl dX9_takes_163 ?_
    refine Z_aload_n hC dX9_takes_166 rfl rfl ?_
    refine Z_get (o := 20) (c := 9) (k := 13) (v := .int ((s4 20).1 13)) hC rfl zs_9 lkX9_88 rfl dX9_takes_167 ?_
    refine Z_isub hC dX9_takes_170 ?_
    refine Z_iconst (v := 2) hC dX9_takes_171 rfl ?_
    refine Z_icmp_ge (tgt := 197) hC dX9_takes_172 (by decide) (fun c13 => ?_) (fun c13 => ?_)
    · have k := k.1 c13
      refine Z_aload_n hC dX9_takes_197 rfl rfl ?_
      refine Z_get (o := 20) (c := 9) (k := 15) (v := .int ((s4 20).1 15)) hC rfl zs_9 lkX9_120 rfl dX9_takes_198 ?_
      refine Z_putI (o := 20) (k := 15) hC rfl zs_9 pkX9_120 rfl rfl (hsX9_15 _ _ _) dX9_takes_201 (fun s14 es14 => ?_)
      have k := k s14 es14
      refine Z_aload_n hC dX9_takes_204 rfl rfl ?_
      refine Z_dup hC dX9_takes_205 rfl ?_
      refine Z_get (o := 20) (c := 9) (k := 12) (v := .int ((s14 20).1 12)) hC rfl zs_9 lkX9_94 rfl dX9_takes_206 ?_
      refine Z_iconst (v := 1) hC dX9_takes_209 rfl ?_
      refine Z_iadd hC dX9_takes_210 ?_
      refine Z_putI (o := 20) (k := 12) hC rfl zs_9 pkX9_94 rfl rfl (hsX9_12 _ _ _) dX9_takes_211 (fun s15 es15 => ?_)
      have k := k s15 es15
      refine Z_goto (tgt := 140) hC dX9_takes_214 (by decide) ?_
      exact k
    · have k := k.2 c13
      refine Z_bipush (v := 10) hC dX9_takes_175 rfl ?_
      refine Z_aload_n hC dX9_takes_177 rfl rfl ?_
      refine Z_get (o := 20) (c := 9) (k := 15) (v := .int ((s4 20).1 15)) hC rfl zs_9 lkX9_120 rfl dX9_takes_178 ?_
      refine Z_imul hC dX9_takes_181 ?_
      refine Z_aload_n hC dX9_takes_182 rfl rfl ?_
      refine Z_aload_n hC dX9_takes_183 rfl rfl ?_
      refine Z_get (o := 20) (c := 9) (k := 12) (v := .int ((s4 20).1 12)) hC rfl zs_9 lkX9_94 rfl dX9_takes_184 ?_
      obtain ⟨r17, s16, h18, k⟩ := k
      refine Z_callV (As := [.int ((s4 20).1 12)]) (rest := [.int (10 * ((s4 20).1 15)), .ref (ad 20 0)]) hC h18 cvX9_97 ⟨9, rfl, zs_9, _, rfl, rfl⟩ rfl rfl (Nat.le_of_ble_eq_true rfl) dX9_takes_187 ?_
      refine Z_iadd hC dX9_takes_190 ?_
      refine Z_bipush (v := 48) hC dX9_takes_191 rfl ?_
      refine Z_isub hC dX9_takes_193 ?_
      refine Z_goto (tgt := 201) hC dX9_takes_194 (by decide) ?_
      refine Z_putI (o := 20) (k := 15) hC rfl zs_9 pkX9_120 rfl rfl (hsX9_15 _ _ _) dX9_takes_201 (fun s19 es19 => ?_)
      have k := k s19 es19
      refine Z_aload_n hC dX9_takes_204 rfl rfl ?_
      refine Z_dup hC dX9_takes_205 rfl ?_
      refine Z_get (o := 20) (c := 9) (k := 12) (v := .int ((s19 20).1 12)) hC rfl zs_9 lkX9_94 rfl dX9_takes_206 ?_
      refine Z_iconst (v := 1) hC dX9_takes_209 rfl ?_
      refine Z_iadd hC dX9_takes_210 ?_
      refine Z_putI (o := 20) (k := 12) hC rfl zs_9 pkX9_94 rfl rfl (hsX9_12 _ _ _) dX9_takes_211 (fun s20 es20 => ?_)
      have k := k s20 es20
      refine Z_goto (tgt := 140) hC dX9_takes_214 (by decide) ?_
      exact k
set_option maxRecDepth 100000 in
set_option maxHeartbeats 4000000 in
theorem bX9_looked_0 {x1 : Int32} {x2 : Int32} {C : ZC} {X : Option Value} {Y : ZS} {s : ZS} (hC : Zok ad D ia C (d + 1) cX9_looked 3 RX9 (some .int)) (k : ((¬ ((s 20).1 16) = 0 → Z l ad D ia C X Y 25 [(0, .ref (ad 20 0)), (1, .int x1), (2, .int x2)] [] s) ∧ (((s 20).1 16) = 0 → ((¬ ((s 20).1 14) = 2 → (∃ s3 : ZS, Ev l ad D ia d mX9_needs [.ref (ad 20 0), .int 0, .int 2] s none s3 ∧ Z l ad D ia C X Y 25 [(0, .ref (ad 20 0)), (1, .int x1), (2, .int x2)] [] s3)) ∧ (((s 20).1 14) = 2 → (∃ s5 : ZS, Ev l ad D ia d mX9_needs [.ref (ad 20 0), .int 1, .int 2] s none s5 ∧ Z l ad D ia C X Y 25 [(0, .ref (ad 20 0)), (1, .int x1), (2, .int x2)] [] s5)))))) : Z l ad D ia C X Y 0 [(0, .ref (ad 20 0)), (1, .int x1), (2, .int x2)] [] s := by
  refine Z_aload_n hC dX9_looked_0 rfl rfl ?_
  refine Z_get (o := 20) (c := 9) (k := 16) (v := .int ((s 20).1 16)) hC rfl zs_9 lkX9_85 rfl dX9_looked_1 ?_
  refine Z_if_ne (tgt := 25) hC dX9_looked_4 (by decide) (fun c1 => ?_) (fun c1 => ?_)
  · have k := k.1 c1
    exact k
  · have k := k.2 c1
    refine Z_aload_n hC dX9_looked_7 rfl rfl ?_
    refine Z_aload_n hC dX9_looked_8 rfl rfl ?_
    refine Z_get (o := 20) (c := 9) (k := 14) (v := .int ((s 20).1 14)) hC rfl zs_9 lkX9_109 rfl dX9_looked_9 ?_
    refine Z_iconst (v := 2) hC dX9_looked_12 rfl ?_
    refine Z_icmp_ne (tgt := 20) hC dX9_looked_13 (by decide) (fun c2 => ?_) (fun c2 => ?_)
    · have k := k.1 c2
      refine Z_iconst (v := 0) hC dX9_looked_20 rfl ?_
      refine Z_iconst (v := 2) hC dX9_looked_21 rfl ?_
      obtain ⟨s3, h4, k⟩ := k
      refine Z_callV (As := [.int 0, .int 2]) (rest := []) hC h4 cvX9_123 ⟨9, rfl, zs_9, _, rfl, rfl⟩ rfl rfl (Nat.le_of_ble_eq_true rfl) dX9_looked_22 ?_
      exact k
    · have k := k.2 c2
      refine Z_iconst (v := 1) hC dX9_looked_16 rfl ?_
      refine Z_goto (tgt := 21) hC dX9_looked_17 (by decide) ?_
      refine Z_iconst (v := 2) hC dX9_looked_21 rfl ?_
      obtain ⟨s5, h6, k⟩ := k
      refine Z_callV (As := [.int 1, .int 2]) (rest := []) hC h6 cvX9_123 ⟨9, rfl, zs_9, _, rfl, rfl⟩ rfl rfl (Nat.le_of_ble_eq_true rfl) dX9_looked_22 ?_
      exact k
theorem eX9_looked {x1 : Int32} {x2 : Int32} {X : Option Value} {Y : ZS} {s : ZS} (k : ∀ C : ZC, Zok ad D ia C (d + 1) cX9_looked 3 RX9 (some .int) → ((¬ ((s 20).1 16) = 0 → Z l ad D ia C X Y 25 [(0, .ref (ad 20 0)), (1, .int x1), (2, .int x2)] [] s) ∧ (((s 20).1 16) = 0 → ((¬ ((s 20).1 14) = 2 → (∃ s3 : ZS, Ev l ad D ia d mX9_needs [.ref (ad 20 0), .int 0, .int 2] s none s3 ∧ Z l ad D ia C X Y 25 [(0, .ref (ad 20 0)), (1, .int x1), (2, .int x2)] [] s3)) ∧ (((s 20).1 14) = 2 → (∃ s5 : ZS, Ev l ad D ia d mX9_needs [.ref (ad 20 0), .int 1, .int 2] s none s5 ∧ Z l ad D ia C X Y 25 [(0, .ref (ad 20 0)), (1, .int x1), (2, .int x2)] [] s5)))))) : Ev l ad D ia (d + 1) mX9_looked [.ref (ad 20 0), .int x1, .int x2] s X Y :=
  Ev.start (by decide +kernel) (Nat.le_of_ble_eq_true rfl) (fun C hC => bX9_looked_0  hC (k C hC))
set_option maxRecDepth 100000 in
set_option maxHeartbeats 4000000 in
theorem bX9_looked_25 {x1 : Int32} {x2 : Int32} {C : ZC} {X : Option Value} {Y : ZS} {s : ZS} (hC : Zok ad D ia C (d + 1) cX9_looked 3 RX9 (some .int)) (k : ((¬ ((s 20).1 16) = 0 → ((¬ ((s 20).1 16) = 0 → (X = some (.int 0) ∧ Y = s)) ∧ (((s 20).1 16) = 0 → (X = some (.int ((s 20).1 15)) ∧ Y = s)))) ∧ (((s 20).1 16) = 0 → (∃ (r4 : Int32) (s3 : ZS), Ev l ad D ia d mX9_in [.long (((s 20).1 15).toInt64), .long x1.toInt64, .long x2.toInt64] s (some (.int r4)) s3 ∧ (∃ s6 : ZS, Ev l ad D ia d mX9_needs [.ref (ad 20 0), .int r4, .int 3] s3 none s6 ∧ ((¬ ((s6 20).1 16) = 0 → (X = some (.int 0) ∧ Y = s6)) ∧ (((s6 20).1 16) = 0 → (X = some (.int ((s6 20).1 15)) ∧ Y = s6)))))))) : Z l ad D ia C X Y 25 [(0, .ref (ad 20 0)), (1, .int x1), (2, .int x2)] [] s := by
  refine Z_aload_n hC dX9_looked_25 rfl rfl ?_
  refine Z_get (o := 20) (c := 9) (k := 16) (v := .int ((s 20).1 16)) hC rfl zs_9 lkX9_85 rfl dX9_looked_26 ?_
  refine Z_if_ne (tgt := 49) hC dX9_looked_29 (by decide) (fun c1 => ?_) (fun c1 => ?_)
  · have k := k.1 c1
    refine Z_aload_n hC dX9_looked_49 rfl rfl ?_
    refine Z_get (o := 20) (c := 9) (k := 16) (v := .int ((s 20).1 16)) hC rfl zs_9 lkX9_85 rfl dX9_looked_50 ?_
    refine Z_if_ne (tgt := 63) hC dX9_looked_53 (by decide) (fun c2 => ?_) (fun c2 => ?_)
    · have k := k.1 c2
      refine Z_iconst (v := 0) hC dX9_looked_63 rfl ?_
      exact Z_iret hC dX9_looked_64 k.1 k.2
    · have k := k.2 c2
      refine Z_aload_n hC dX9_looked_56 rfl rfl ?_
      refine Z_get (o := 20) (c := 9) (k := 15) (v := .int ((s 20).1 15)) hC rfl zs_9 lkX9_120 rfl dX9_looked_57 ?_
      refine Z_goto (tgt := 64) hC dX9_looked_60 (by decide) ?_
      exact Z_iret hC dX9_looked_64 k.1 k.2
  · have k := k.2 c1
    refine Z_aload_n hC dX9_looked_32 rfl rfl ?_
    refine Z_aload_n hC dX9_looked_33 rfl rfl ?_
    refine Z_get (o := 20) (c := 9) (k := 15) (v := .int ((s 20).1 15)) hC rfl zs_9 lkX9_120 rfl dX9_looked_34 ?_
    refine Z_i2l hC dX9_looked_37 ?_
    refine Z_iload_n hC dX9_looked_38 rfl rfl ?_
    refine Z_i2l hC dX9_looked_39 ?_
    refine Z_iload_n hC dX9_looked_40 rfl rfl ?_
    refine Z_i2l hC dX9_looked_41 ?_
    obtain ⟨r4, s3, h5, k⟩ := k
    refine Z_callS (As := [.long (((s 20).1 15).toInt64), .long x1.toInt64, .long x2.toInt64]) (rest := [.ref (ad 20 0)]) hC h5 csX9_78 rfl rfl (Nat.le_of_ble_eq_true rfl) dX9_looked_42 ?_
    refine Z_iconst (v := 3) hC dX9_looked_45 rfl ?_
    obtain ⟨s6, h7, k⟩ := k
    refine Z_callV (As := [.int r4, .int 3]) (rest := []) hC h7 cvX9_123 ⟨9, rfl, zs_9, _, rfl, rfl⟩ rfl rfl (Nat.le_of_ble_eq_true rfl) dX9_looked_46 ?_
    refine Z_aload_n hC dX9_looked_49 rfl rfl ?_
    refine Z_get (o := 20) (c := 9) (k := 16) (v := .int ((s6 20).1 16)) hC rfl zs_9 lkX9_85 rfl dX9_looked_50 ?_
    refine Z_if_ne (tgt := 63) hC dX9_looked_53 (by decide) (fun c8 => ?_) (fun c8 => ?_)
    · have k := k.1 c8
      refine Z_iconst (v := 0) hC dX9_looked_63 rfl ?_
      exact Z_iret hC dX9_looked_64 k.1 k.2
    · have k := k.2 c8
      refine Z_aload_n hC dX9_looked_56 rfl rfl ?_
      refine Z_get (o := 20) (c := 9) (k := 15) (v := .int ((s6 20).1 15)) hC rfl zs_9 lkX9_120 rfl dX9_looked_57 ?_
      refine Z_goto (tgt := 64) hC dX9_looked_60 (by decide) ?_
      exact Z_iret hC dX9_looked_64 k.1 k.2
set_option maxRecDepth 100000 in
set_option maxHeartbeats 4000000 in
theorem bX9_readNumber_0 {x1 : Int32} {x2 : Int32} {C : ZC} {X : Option Value} {Y : ZS} {s : ZS} (hC : Zok ad D ia C (d + 1) cX9_readNumber 4 RX9 (some .int)) (k : (∃ (r2 : Int32) (s1 : ZS), Ev l ad D ia d mX9_looked [.ref (ad 20 0), .int x1, .int x2] s (some (.int r2)) s1 ∧ (∃ s4 : ZS, Ev l ad D ia d mX9_takes [.ref (ad 20 0)] s1 none s4 ∧ (X = some (.int r2) ∧ Y = s4)))) : Z l ad D ia C X Y 0 [(0, .ref (ad 20 0)), (1, .int x1), (2, .int x2)] [] s := by
  refine Z_aload_n hC dX9_readNumber_0 rfl rfl ?_
  refine Z_iload_n hC dX9_readNumber_1 rfl rfl ?_
  refine Z_iload_n hC dX9_readNumber_2 rfl rfl ?_
  obtain ⟨r2, s1, h3, k⟩ := k
  refine Z_callV (As := [.int x1, .int x2]) (rest := []) hC h3 cvX9_127 ⟨9, rfl, zs_9, _, rfl, rfl⟩ rfl rfl (Nat.le_of_ble_eq_true rfl) dX9_readNumber_3 ?_
  refine Z_istore_n (V2 := [(3, .int r2), (0, .ref (ad 20 0)), (1, .int x1), (2, .int x2)]) hC dX9_readNumber_6 rfl (by decide) rfl ?_
  refine Z_aload_n hC dX9_readNumber_7 rfl rfl ?_
  obtain ⟨s4, h5, k⟩ := k
  refine Z_callV (As := []) (rest := []) hC h5 cvX9_131 ⟨9, rfl, zs_9, _, rfl, rfl⟩ rfl rfl (Nat.le_of_ble_eq_true rfl) dX9_readNumber_8 ?_
  refine Z_iload_n hC dX9_readNumber_11 rfl rfl ?_
  exact Z_iret hC dX9_readNumber_12 k.1 k.2
theorem eX9_readNumber {x1 : Int32} {x2 : Int32} {X : Option Value} {Y : ZS} {s : ZS} (k : (∃ (r2 : Int32) (s1 : ZS), Ev l ad D ia d mX9_looked [.ref (ad 20 0), .int x1, .int x2] s (some (.int r2)) s1 ∧ (∃ s4 : ZS, Ev l ad D ia d mX9_takes [.ref (ad 20 0)] s1 none s4 ∧ (X = some (.int r2) ∧ Y = s4)))) : Ev l ad D ia (d + 1) mX9_readNumber [.ref (ad 20 0), .int x1, .int x2] s X Y :=
  Ev.start (by decide +kernel) (Nat.le_of_ble_eq_true rfl) (fun C hC => bX9_readNumber_0  hC k)
set_option maxRecDepth 100000 in
set_option maxHeartbeats 4000000 in
theorem bX9_readBook_0 {C : ZC} {X : Option Value} {Y : ZS} {s : ZS} (hC : Zok ad D ia C (d + 1) cX9_readBook 2 RX9 (some .int)) (k : (∃ (r2 : Int32) (s1 : ZS), Ev l ad D ia d mX9_looked [.ref (ad 20 0), .int 0, .int 9] s (some (.int r2)) s1 ∧ ((r2 = 8 → Z l ad D ia C X Y 20 [(0, .ref (ad 20 0)), (1, .int r2)] [.int 0, .ref (ad 20 0)] s1) ∧ (¬ r2 = 8 → Z l ad D ia C X Y 20 [(0, .ref (ad 20 0)), (1, .int r2)] [.int 1, .ref (ad 20 0)] s1)))) : Z l ad D ia C X Y 0 [(0, .ref (ad 20 0))] [] s := by
  refine Z_aload_n hC dX9_readBook_0 rfl rfl ?_
  refine Z_iconst (v := 0) hC dX9_readBook_1 rfl ?_
  refine Z_bipush (v := 9) hC dX9_readBook_2 rfl ?_
  obtain ⟨r2, s1, h3, k⟩ := k
  refine Z_callV (As := [.int 0, .int 9]) (rest := []) hC h3 cvX9_127 ⟨9, rfl, zs_9, _, rfl, rfl⟩ rfl rfl (Nat.le_of_ble_eq_true rfl) dX9_readBook_4 ?_
  refine Z_istore_n (V2 := [(1, .int r2), (0, .ref (ad 20 0))]) hC dX9_readBook_7 rfl (by decide) rfl ?_
  refine Z_aload_n hC dX9_readBook_8 rfl rfl ?_
  refine Z_iload_n hC dX9_readBook_9 rfl rfl ?_
  refine Z_bipush (v := 8) hC dX9_readBook_10 rfl ?_
  refine Z_icmp_eq (tgt := 19) hC dX9_readBook_12 (by decide) (fun c4 => ?_) (fun c4 => ?_)
  · have k := k.1 c4
    refine Z_iconst (v := 0) hC dX9_readBook_19 rfl ?_
    exact Z_pick [1, 0] rfl k
  · have k := k.2 c4
    refine Z_iconst (v := 1) hC dX9_readBook_15 rfl ?_
    refine Z_goto (tgt := 20) hC dX9_readBook_16 (by decide) ?_
    exact Z_pick [1, 0] rfl k
theorem eX9_readBook {X : Option Value} {Y : ZS} {s : ZS} (k : ∀ C : ZC, Zok ad D ia C (d + 1) cX9_readBook 2 RX9 (some .int) → (∃ (r2 : Int32) (s1 : ZS), Ev l ad D ia d mX9_looked [.ref (ad 20 0), .int 0, .int 9] s (some (.int r2)) s1 ∧ ((r2 = 8 → Z l ad D ia C X Y 20 [(0, .ref (ad 20 0)), (1, .int r2)] [.int 0, .ref (ad 20 0)] s1) ∧ (¬ r2 = 8 → Z l ad D ia C X Y 20 [(0, .ref (ad 20 0)), (1, .int r2)] [.int 1, .ref (ad 20 0)] s1)))) : Ev l ad D ia (d + 1) mX9_readBook [.ref (ad 20 0)] s X Y :=
  Ev.start (by decide +kernel) (Nat.le_of_ble_eq_true rfl) (fun C hC => bX9_readBook_0  hC (k C hC))
set_option maxRecDepth 100000 in
set_option maxHeartbeats 4000000 in
theorem bX9_readBook_20 {x1 : Int32} {t0 : Int32} {C : ZC} {X : Option Value} {Y : ZS} {s : ZS} (hC : Zok ad D ia C (d + 1) cX9_readBook 2 RX9 (some .int)) (k : (∃ s1 : ZS, Ev l ad D ia d mX9_needs [.ref (ad 20 0), .int t0, .int 3] s none s1 ∧ (∃ s3 : ZS, Ev l ad D ia d mX9_takes [.ref (ad 20 0)] s1 none s3 ∧ ((8 ≤ x1 → (∀ s6 : ZS, s6 = stI s3 20 9 ((s3 20).1 9) → ((¬ x1 = 9 → (X = some (.int x1) ∧ Y = s6)) ∧ (x1 = 9 → (X = some (.int ((-4))) ∧ Y = s6))))) ∧ (¬ 8 ≤ x1 → ((x1 ≤ ((s3 20).1 9) → (∀ s9 : ZS, s9 = stI s3 20 9 ((s3 20).1 9) → ((¬ x1 = 9 → (X = some (.int x1) ∧ Y = s9)) ∧ (x1 = 9 → (X = some (.int ((-4))) ∧ Y = s9))))) ∧ (¬ x1 ≤ ((s3 20).1 9) → (∀ s11 : ZS, s11 = stI s3 20 9 x1 → ((¬ x1 = 9 → (X = some (.int x1) ∧ Y = s11)) ∧ (x1 = 9 → (X = some (.int ((-4))) ∧ Y = s11))))))))))) : Z l ad D ia C X Y 20 [(0, .ref (ad 20 0)), (1, .int x1)] [.int t0, .ref (ad 20 0)] s := by
  refine Z_iconst (v := 3) hC dX9_readBook_20 rfl ?_
  obtain ⟨s1, h2, k⟩ := k
  refine Z_callV (As := [.int t0, .int 3]) (rest := []) hC h2 cvX9_123 ⟨9, rfl, zs_9, _, rfl, rfl⟩ rfl rfl (Nat.le_of_ble_eq_true rfl) dX9_readBook_21 ?_
  refine Z_aload_n hC dX9_readBook_24 rfl rfl ?_
  obtain ⟨s3, h4, k⟩ := k
  refine Z_callV (As := []) (rest := []) hC h4 cvX9_131 ⟨9, rfl, zs_9, _, rfl, rfl⟩ rfl rfl (Nat.le_of_ble_eq_true rfl) dX9_readBook_25 ?_
  refine Z_aload_n hC dX9_readBook_28 rfl rfl ?_
  refine Z_iload_n hC dX9_readBook_29 rfl rfl ?_
  refine Z_bipush (v := 8) hC dX9_readBook_30 rfl ?_
  refine Z_icmp_ge (tgt := 47) hC dX9_readBook_32 (by decide) (fun c5 => ?_) (fun c5 => ?_)
  · have k := k.1 c5
    refine Z_aload_n hC dX9_readBook_47 rfl rfl ?_
    refine Z_get (o := 20) (c := 9) (k := 9) (v := .int ((s3 20).1 9)) hC rfl zs_9 lkX9_67 rfl dX9_readBook_48 ?_
    refine Z_putI (o := 20) (k := 9) hC rfl zs_9 pkX9_67 rfl rfl (hsX9_9 _ _ _) dX9_readBook_51 (fun s6 es6 => ?_)
    have k := k s6 es6
    refine Z_iload_n hC dX9_readBook_54 rfl rfl ?_
    refine Z_bipush (v := 9) hC dX9_readBook_55 rfl ?_
    refine Z_icmp_ne (tgt := 65) hC dX9_readBook_57 (by decide) (fun c7 => ?_) (fun c7 => ?_)
    · have k := k.1 c7
      refine Z_iload_n hC dX9_readBook_65 rfl rfl ?_
      exact Z_iret hC dX9_readBook_66 k.1 k.2
    · have k := k.2 c7
      refine Z_bipush (v := (-4)) hC dX9_readBook_60 rfl ?_
      refine Z_goto (tgt := 66) hC dX9_readBook_62 (by decide) ?_
      exact Z_iret hC dX9_readBook_66 k.1 k.2
  · have k := k.2 c5
    refine Z_iload_n hC dX9_readBook_35 rfl rfl ?_
    refine Z_aload_n hC dX9_readBook_36 rfl rfl ?_
    refine Z_get (o := 20) (c := 9) (k := 9) (v := .int ((s3 20).1 9)) hC rfl zs_9 lkX9_67 rfl dX9_readBook_37 ?_
    refine Z_icmp_le (tgt := 47) hC dX9_readBook_40 (by decide) (fun c8 => ?_) (fun c8 => ?_)
    · have k := k.1 c8
      refine Z_aload_n hC dX9_readBook_47 rfl rfl ?_
      refine Z_get (o := 20) (c := 9) (k := 9) (v := .int ((s3 20).1 9)) hC rfl zs_9 lkX9_67 rfl dX9_readBook_48 ?_
      refine Z_putI (o := 20) (k := 9) hC rfl zs_9 pkX9_67 rfl rfl (hsX9_9 _ _ _) dX9_readBook_51 (fun s9 es9 => ?_)
      have k := k s9 es9
      refine Z_iload_n hC dX9_readBook_54 rfl rfl ?_
      refine Z_bipush (v := 9) hC dX9_readBook_55 rfl ?_
      refine Z_icmp_ne (tgt := 65) hC dX9_readBook_57 (by decide) (fun c10 => ?_) (fun c10 => ?_)
      · have k := k.1 c10
        refine Z_iload_n hC dX9_readBook_65 rfl rfl ?_
        exact Z_iret hC dX9_readBook_66 k.1 k.2
      · have k := k.2 c10
        refine Z_bipush (v := (-4)) hC dX9_readBook_60 rfl ?_
        refine Z_goto (tgt := 66) hC dX9_readBook_62 (by decide) ?_
        exact Z_iret hC dX9_readBook_66 k.1 k.2
    · have k := k.2 c8
      refine Z_iload_n hC dX9_readBook_43 rfl rfl ?_
      refine Z_goto (tgt := 51) hC dX9_readBook_44 (by decide) ?_
      refine Z_putI (o := 20) (k := 9) hC rfl zs_9 pkX9_67 rfl rfl (hsX9_9 _ _ _) dX9_readBook_51 (fun s11 es11 => ?_)
      have k := k s11 es11
      refine Z_iload_n hC dX9_readBook_54 rfl rfl ?_
      refine Z_bipush (v := 9) hC dX9_readBook_55 rfl ?_
      refine Z_icmp_ne (tgt := 65) hC dX9_readBook_57 (by decide) (fun c12 => ?_) (fun c12 => ?_)
      · have k := k.1 c12
        refine Z_iload_n hC dX9_readBook_65 rfl rfl ?_
        exact Z_iret hC dX9_readBook_66 k.1 k.2
      · have k := k.2 c12
        refine Z_bipush (v := (-4)) hC dX9_readBook_60 rfl ?_
        refine Z_goto (tgt := 66) hC dX9_readBook_62 (by decide) ?_
        exact Z_iret hC dX9_readBook_66 k.1 k.2
set_option maxRecDepth 100000 in
set_option maxHeartbeats 4000000 in
theorem bX9_readLineOf_0 {x1 : Int32} {C : ZC} {X : Option Value} {Y : ZS} {s : ZS} (hC : Zok ad D ia C (d + 1) cX9_readLineOf 2 RX9 none) (k : ((x1 = 4 → (∃ (r3 : Int32) (s2 : ZS), Ev l ad D ia d mX9_readNumber [.ref (ad 20 0), .int 0, .int 7] s (some (.int r3)) s2 ∧ (vp_in ((3 * ((s 20).1 6)) + 0) 62 ∧ (∀ s6 : ZS, s6 = stA s2 20 5 ((3 * ((s 20).1 6)) + 0).toNatClampNeg r3 → (∃ (r8 : Int32) (s7 : ZS), Ev l ad D ia d mX9_readNumber [.ref (ad 20 0), .int 0, .int 9] s6 (some (.int r8)) s7 ∧ (vp_in ((3 * ((s6 20).1 6)) + 1) 62 ∧ (∀ s11 : ZS, s11 = stA s7 20 5 ((3 * ((s6 20).1 6)) + 1).toNatClampNeg r8 → (∃ (r13 : Int32) (s12 : ZS), Ev l ad D ia d mX9_readBook [.ref (ad 20 0)] s11 (some (.int r13)) s12 ∧ (vp_in ((3 * ((s11 20).1 6)) + 2) 62 ∧ (∀ s16 : ZS, s16 = stA s12 20 5 ((3 * ((s11 20).1 6)) + 2).toNatClampNeg r13 → (∀ s17 : ZS, s17 = stI s16 20 6 (((s16 20).1 6) + 1) → (X = none ∧ Y = s17)))))))))))) ∧ (x1 = 5 → (∃ (r20 : Int32) (s19 : ZS), Ev l ad D ia d mX9_readNumber [.ref (ad 20 0), .int 0, .int 7] s (some (.int r20)) s19 ∧ (vp_in 40 62 ∧ (∀ s23 : ZS, s23 = stA s19 20 5 (40 : Int32).toNatClampNeg r20 → (X = none ∧ Y = s23))))) ∧ ((¬ x1 = 4 ∧ ¬ x1 = 5) → (vp_in ((24 + (4 * ((s 20).1 7))) + 0) 62 ∧ (∀ s25 : ZS, s25 = stA s 20 5 ((24 + (4 * ((s 20).1 7))) + 0).toNatClampNeg x1 → (∃ (r27 : Int32) (s26 : ZS), Ev l ad D ia d mX9_readBook [.ref (ad 20 0)] s25 (some (.int r27)) s26 ∧ (vp_in ((24 + (4 * ((s25 20).1 7))) + 1) 62 ∧ (∀ s30 : ZS, s30 = stA s26 20 5 ((24 + (4 * ((s25 20).1 7))) + 1).toNatClampNeg r27 → (∃ (r32 : Int32) (s31 : ZS), Ev l ad D ia d mX9_readNumber [.ref (ad 20 0), .int 1, .int 99] s30 (some (.int r32)) s31 ∧ (vp_in ((24 + (4 * ((s30 20).1 7))) + 2) 62 ∧ (∀ s35 : ZS, s35 = stA s31 20 5 ((24 + (4 * ((s30 20).1 7))) + 2).toNatClampNeg r32 → (∀ s36 : ZS, s36 = stI s35 20 7 (((s35 20).1 7) + 1) → (X = none ∧ Y = s36))))))))))))) : Z l ad D ia C X Y 0 [(0, .ref (ad 20 0)), (1, .int x1)] [] s := by
  refine Z_iload_n hC dX9_readLineOf_0 rfl rfl ?_
  by_cases c1 : x1 = 4
  · have c1x : (x1).toInt = 4 := by rw [c1]; rfl
    have k := k.1 c1
    refine Z_look (off := 27) (tgt := 28) hC dX9_readLineOf_1 rfl (by rw [c1x]; try rfl) (by decide) ?_
    refine Z_aload_n hC dX9_readLineOf_28 rfl rfl ?_
    refine Z_get (o := 20) (c := 9) (k := 5) (v := .ref (ad 20 6)) hC rfl zs_9 lkX9_20 rfl dX9_readLineOf_29 ?_
    refine Z_iconst (v := 3) hC dX9_readLineOf_32 rfl ?_
    refine Z_aload_n hC dX9_readLineOf_33 rfl rfl ?_
    refine Z_get (o := 20) (c := 9) (k := 6) (v := .int ((s 20).1 6)) hC rfl zs_9 lkX9_56 rfl dX9_readLineOf_34 ?_
    refine Z_imul hC dX9_readLineOf_37 ?_
    refine Z_iconst (v := 0) hC dX9_readLineOf_38 rfl ?_
    refine Z_iadd hC dX9_readLineOf_39 ?_
    refine Z_aload_n hC dX9_readLineOf_40 rfl rfl ?_
    refine Z_iconst (v := 0) hC dX9_readLineOf_41 rfl ?_
    refine Z_bipush (v := 7) hC dX9_readLineOf_42 rfl ?_
    obtain ⟨r3, s2, h4, k⟩ := k
    refine Z_callV (As := [.int 0, .int 7]) (rest := [.int ((3 * ((s 20).1 6)) + 0), .ref (ad 20 6)]) hC h4 cvX9_134 ⟨9, rfl, zs_9, _, rfl, rfl⟩ rfl rfl (Nat.le_of_ble_eq_true rfl) dX9_readLineOf_44 ?_
    obtain ⟨h5, k⟩ := k
    refine Z_iast2 (o := 20) (k := 5) hC (zis_of rfl rfl) h5 dX9_readLineOf_47 (fun s6 es6 => ?_)
    have k := k s6 es6
    refine Z_aload_n hC dX9_readLineOf_48 rfl rfl ?_
    refine Z_get (o := 20) (c := 9) (k := 5) (v := .ref (ad 20 6)) hC rfl zs_9 lkX9_20 rfl dX9_readLineOf_49 ?_
    refine Z_iconst (v := 3) hC dX9_readLineOf_52 rfl ?_
    refine Z_aload_n hC dX9_readLineOf_53 rfl rfl ?_
    refine Z_get (o := 20) (c := 9) (k := 6) (v := .int ((s6 20).1 6)) hC rfl zs_9 lkX9_56 rfl dX9_readLineOf_54 ?_
    refine Z_imul hC dX9_readLineOf_57 ?_
    refine Z_iconst (v := 1) hC dX9_readLineOf_58 rfl ?_
    refine Z_iadd hC dX9_readLineOf_59 ?_
    refine Z_aload_n hC dX9_readLineOf_60 rfl rfl ?_
    refine Z_iconst (v := 0) hC dX9_readLineOf_61 rfl ?_
    refine Z_bipush (v := 9) hC dX9_readLineOf_62 rfl ?_
    obtain ⟨r8, s7, h9, k⟩ := k
    refine Z_callV (As := [.int 0, .int 9]) (rest := [.int ((3 * ((s6 20).1 6)) + 1), .ref (ad 20 6)]) hC h9 cvX9_134 ⟨9, rfl, zs_9, _, rfl, rfl⟩ rfl rfl (Nat.le_of_ble_eq_true rfl) dX9_readLineOf_64 ?_
    obtain ⟨h10, k⟩ := k
    refine Z_iast2 (o := 20) (k := 5) hC (zis_of rfl rfl) h10 dX9_readLineOf_67 (fun s11 es11 => ?_)
    have k := k s11 es11
    refine Z_aload_n hC dX9_readLineOf_68 rfl rfl ?_
    refine Z_get (o := 20) (c := 9) (k := 5) (v := .ref (ad 20 6)) hC rfl zs_9 lkX9_20 rfl dX9_readLineOf_69 ?_
    refine Z_iconst (v := 3) hC dX9_readLineOf_72 rfl ?_
    refine Z_aload_n hC dX9_readLineOf_73 rfl rfl ?_
    refine Z_get (o := 20) (c := 9) (k := 6) (v := .int ((s11 20).1 6)) hC rfl zs_9 lkX9_56 rfl dX9_readLineOf_74 ?_
    refine Z_imul hC dX9_readLineOf_77 ?_
    refine Z_iconst (v := 2) hC dX9_readLineOf_78 rfl ?_
    refine Z_iadd hC dX9_readLineOf_79 ?_
    refine Z_aload_n hC dX9_readLineOf_80 rfl rfl ?_
    obtain ⟨r13, s12, h14, k⟩ := k
    refine Z_callV (As := []) (rest := [.int ((3 * ((s11 20).1 6)) + 2), .ref (ad 20 6)]) hC h14 cvX9_137 ⟨9, rfl, zs_9, _, rfl, rfl⟩ rfl rfl (Nat.le_of_ble_eq_true rfl) dX9_readLineOf_81 ?_
    obtain ⟨h15, k⟩ := k
    refine Z_iast2 (o := 20) (k := 5) hC (zis_of rfl rfl) h15 dX9_readLineOf_84 (fun s16 es16 => ?_)
    have k := k s16 es16
    refine Z_aload_n hC dX9_readLineOf_85 rfl rfl ?_
    refine Z_dup hC dX9_readLineOf_86 rfl ?_
    refine Z_get (o := 20) (c := 9) (k := 6) (v := .int ((s16 20).1 6)) hC rfl zs_9 lkX9_56 rfl dX9_readLineOf_87 ?_
    refine Z_iconst (v := 1) hC dX9_readLineOf_90 rfl ?_
    refine Z_iadd hC dX9_readLineOf_91 ?_
    refine Z_putI (o := 20) (k := 6) hC rfl zs_9 pkX9_56 rfl rfl (hsX9_6 _ _ _) dX9_readLineOf_92 (fun s17 es17 => ?_)
    have k := k s17 es17
    refine Z_goto (tgt := 185) hC dX9_readLineOf_95 (by decide) ?_
    exact Z_vret hC dX9_readLineOf_185 k.1 k.2
  by_cases c18 : x1 = 5
  · have c18x : (x1).toInt = 5 := by rw [c18]; rfl
    have k := k.2.1 c18
    refine Z_look (off := 97) (tgt := 98) hC dX9_readLineOf_1 rfl (by rw [c18x]; try rfl) (by decide) ?_
    refine Z_aload_n hC dX9_readLineOf_98 rfl rfl ?_
    refine Z_get (o := 20) (c := 9) (k := 5) (v := .ref (ad 20 6)) hC rfl zs_9 lkX9_20 rfl dX9_readLineOf_99 ?_
    refine Z_bipush (v := 40) hC dX9_readLineOf_102 rfl ?_
    refine Z_aload_n hC dX9_readLineOf_104 rfl rfl ?_
    refine Z_iconst (v := 0) hC dX9_readLineOf_105 rfl ?_
    refine Z_bipush (v := 7) hC dX9_readLineOf_106 rfl ?_
    obtain ⟨r20, s19, h21, k⟩ := k
    refine Z_callV (As := [.int 0, .int 7]) (rest := [.int 40, .ref (ad 20 6)]) hC h21 cvX9_134 ⟨9, rfl, zs_9, _, rfl, rfl⟩ rfl rfl (Nat.le_of_ble_eq_true rfl) dX9_readLineOf_108 ?_
    obtain ⟨h22, k⟩ := k
    refine Z_iast2 (o := 20) (k := 5) hC (zis_of rfl rfl) h22 dX9_readLineOf_111 (fun s23 es23 => ?_)
    have k := k s23 es23
    refine Z_goto (tgt := 185) hC dX9_readLineOf_112 (by decide) ?_
    exact Z_vret hC dX9_readLineOf_185 k.1 k.2
  have k := k.2.2 ⟨c1, c18⟩
  refine Z_look (off := 114) (tgt := 115) hC dX9_readLineOf_1 rfl ((lv_osw (k := 4) c1 rfl).trans ((lv_osw (k := 5) c18 rfl).trans (rfl))) (by decide) ?_
  refine Z_aload_n hC dX9_readLineOf_115 rfl rfl ?_
  refine Z_get (o := 20) (c := 9) (k := 5) (v := .ref (ad 20 6)) hC rfl zs_9 lkX9_20 rfl dX9_readLineOf_116 ?_
  refine Z_bipush (v := 24) hC dX9_readLineOf_119 rfl ?_
  refine Z_iconst (v := 4) hC dX9_readLineOf_121 rfl ?_
  refine Z_aload_n hC dX9_readLineOf_122 rfl rfl ?_
  refine Z_get (o := 20) (c := 9) (k := 7) (v := .int ((s 20).1 7)) hC rfl zs_9 lkX9_60 rfl dX9_readLineOf_123 ?_
  refine Z_imul hC dX9_readLineOf_126 ?_
  refine Z_iadd hC dX9_readLineOf_127 ?_
  refine Z_iconst (v := 0) hC dX9_readLineOf_128 rfl ?_
  refine Z_iadd hC dX9_readLineOf_129 ?_
  refine Z_iload_n hC dX9_readLineOf_130 rfl rfl ?_
  obtain ⟨h24, k⟩ := k
  refine Z_iast2 (o := 20) (k := 5) hC (zis_of rfl rfl) h24 dX9_readLineOf_131 (fun s25 es25 => ?_)
  have k := k s25 es25
  refine Z_aload_n hC dX9_readLineOf_132 rfl rfl ?_
  refine Z_get (o := 20) (c := 9) (k := 5) (v := .ref (ad 20 6)) hC rfl zs_9 lkX9_20 rfl dX9_readLineOf_133 ?_
  refine Z_bipush (v := 24) hC dX9_readLineOf_136 rfl ?_
  refine Z_iconst (v := 4) hC dX9_readLineOf_138 rfl ?_
  refine Z_aload_n hC dX9_readLineOf_139 rfl rfl ?_
  refine Z_get (o := 20) (c := 9) (k := 7) (v := .int ((s25 20).1 7)) hC rfl zs_9 lkX9_60 rfl dX9_readLineOf_140 ?_
  refine Z_imul hC dX9_readLineOf_143 ?_
  refine Z_iadd hC dX9_readLineOf_144 ?_
  refine Z_iconst (v := 1) hC dX9_readLineOf_145 rfl ?_
  refine Z_iadd hC dX9_readLineOf_146 ?_
  refine Z_aload_n hC dX9_readLineOf_147 rfl rfl ?_
  obtain ⟨r27, s26, h28, k⟩ := k
  refine Z_callV (As := []) (rest := [.int ((24 + (4 * ((s25 20).1 7))) + 1), .ref (ad 20 6)]) hC h28 cvX9_137 ⟨9, rfl, zs_9, _, rfl, rfl⟩ rfl rfl (Nat.le_of_ble_eq_true rfl) dX9_readLineOf_148 ?_
  obtain ⟨h29, k⟩ := k
  refine Z_iast2 (o := 20) (k := 5) hC (zis_of rfl rfl) h29 dX9_readLineOf_151 (fun s30 es30 => ?_)
  have k := k s30 es30
  refine Z_aload_n hC dX9_readLineOf_152 rfl rfl ?_
  refine Z_get (o := 20) (c := 9) (k := 5) (v := .ref (ad 20 6)) hC rfl zs_9 lkX9_20 rfl dX9_readLineOf_153 ?_
  refine Z_bipush (v := 24) hC dX9_readLineOf_156 rfl ?_
  refine Z_iconst (v := 4) hC dX9_readLineOf_158 rfl ?_
  refine Z_aload_n hC dX9_readLineOf_159 rfl rfl ?_
  refine Z_get (o := 20) (c := 9) (k := 7) (v := .int ((s30 20).1 7)) hC rfl zs_9 lkX9_60 rfl dX9_readLineOf_160 ?_
  refine Z_imul hC dX9_readLineOf_163 ?_
  refine Z_iadd hC dX9_readLineOf_164 ?_
  refine Z_iconst (v := 2) hC dX9_readLineOf_165 rfl ?_
  refine Z_iadd hC dX9_readLineOf_166 ?_
  refine Z_aload_n hC dX9_readLineOf_167 rfl rfl ?_
  refine Z_iconst (v := 1) hC dX9_readLineOf_168 rfl ?_
  refine Z_bipush (v := 99) hC dX9_readLineOf_169 rfl ?_
  obtain ⟨r32, s31, h33, k⟩ := k
  refine Z_callV (As := [.int 1, .int 99]) (rest := [.int ((24 + (4 * ((s30 20).1 7))) + 2), .ref (ad 20 6)]) hC h33 cvX9_134 ⟨9, rfl, zs_9, _, rfl, rfl⟩ rfl rfl (Nat.le_of_ble_eq_true rfl) dX9_readLineOf_171 ?_
  obtain ⟨h34, k⟩ := k
  refine Z_iast2 (o := 20) (k := 5) hC (zis_of rfl rfl) h34 dX9_readLineOf_174 (fun s35 es35 => ?_)
  have k := k s35 es35
  refine Z_aload_n hC dX9_readLineOf_175 rfl rfl ?_
  refine Z_dup hC dX9_readLineOf_176 rfl ?_
  refine Z_get (o := 20) (c := 9) (k := 7) (v := .int ((s35 20).1 7)) hC rfl zs_9 lkX9_60 rfl dX9_readLineOf_177 ?_
  refine Z_iconst (v := 1) hC dX9_readLineOf_180 rfl ?_
  refine Z_iadd hC dX9_readLineOf_181 ?_
  refine Z_putI (o := 20) (k := 7) hC rfl zs_9 pkX9_60 rfl rfl (hsX9_7 _ _ _) dX9_readLineOf_182 (fun s36 es36 => ?_)
  have k := k s36 es36
  exact Z_vret hC dX9_readLineOf_185 k.1 k.2
theorem eX9_readLineOf {x1 : Int32} {X : Option Value} {Y : ZS} {s : ZS} (k : ((x1 = 4 → (∃ (r3 : Int32) (s2 : ZS), Ev l ad D ia d mX9_readNumber [.ref (ad 20 0), .int 0, .int 7] s (some (.int r3)) s2 ∧ (vp_in ((3 * ((s 20).1 6)) + 0) 62 ∧ (∀ s6 : ZS, s6 = stA s2 20 5 ((3 * ((s 20).1 6)) + 0).toNatClampNeg r3 → (∃ (r8 : Int32) (s7 : ZS), Ev l ad D ia d mX9_readNumber [.ref (ad 20 0), .int 0, .int 9] s6 (some (.int r8)) s7 ∧ (vp_in ((3 * ((s6 20).1 6)) + 1) 62 ∧ (∀ s11 : ZS, s11 = stA s7 20 5 ((3 * ((s6 20).1 6)) + 1).toNatClampNeg r8 → (∃ (r13 : Int32) (s12 : ZS), Ev l ad D ia d mX9_readBook [.ref (ad 20 0)] s11 (some (.int r13)) s12 ∧ (vp_in ((3 * ((s11 20).1 6)) + 2) 62 ∧ (∀ s16 : ZS, s16 = stA s12 20 5 ((3 * ((s11 20).1 6)) + 2).toNatClampNeg r13 → (∀ s17 : ZS, s17 = stI s16 20 6 (((s16 20).1 6) + 1) → (X = none ∧ Y = s17)))))))))))) ∧ (x1 = 5 → (∃ (r20 : Int32) (s19 : ZS), Ev l ad D ia d mX9_readNumber [.ref (ad 20 0), .int 0, .int 7] s (some (.int r20)) s19 ∧ (vp_in 40 62 ∧ (∀ s23 : ZS, s23 = stA s19 20 5 (40 : Int32).toNatClampNeg r20 → (X = none ∧ Y = s23))))) ∧ ((¬ x1 = 4 ∧ ¬ x1 = 5) → (vp_in ((24 + (4 * ((s 20).1 7))) + 0) 62 ∧ (∀ s25 : ZS, s25 = stA s 20 5 ((24 + (4 * ((s 20).1 7))) + 0).toNatClampNeg x1 → (∃ (r27 : Int32) (s26 : ZS), Ev l ad D ia d mX9_readBook [.ref (ad 20 0)] s25 (some (.int r27)) s26 ∧ (vp_in ((24 + (4 * ((s25 20).1 7))) + 1) 62 ∧ (∀ s30 : ZS, s30 = stA s26 20 5 ((24 + (4 * ((s25 20).1 7))) + 1).toNatClampNeg r27 → (∃ (r32 : Int32) (s31 : ZS), Ev l ad D ia d mX9_readNumber [.ref (ad 20 0), .int 1, .int 99] s30 (some (.int r32)) s31 ∧ (vp_in ((24 + (4 * ((s30 20).1 7))) + 2) 62 ∧ (∀ s35 : ZS, s35 = stA s31 20 5 ((24 + (4 * ((s30 20).1 7))) + 2).toNatClampNeg r32 → (∀ s36 : ZS, s36 = stI s35 20 7 (((s35 20).1 7) + 1) → (X = none ∧ Y = s36))))))))))))) : Ev l ad D ia (d + 1) mX9_readLineOf [.ref (ad 20 0), .int x1] s X Y :=
  Ev.start (by decide +kernel) (Nat.le_of_ble_eq_true rfl) (fun C hC => bX9_readLineOf_0  hC k)
set_option maxRecDepth 100000 in
set_option maxHeartbeats 4000000 in
theorem bX9_readLine_0 {C : ZC} {X : Option Value} {Y : ZS} {s : ZS} (hC : Zok ad D ia C (d + 1) cX9_readLine 2 RX9 none) (k : ((¬ ((s 20).1 14) = 1 → Z l ad D ia C X Y 17 [(0, .ref (ad 20 0))] [.int ((-4))] s) ∧ (((s 20).1 14) = 1 → (∃ (r3 : Int32) (s2 : ZS), Ev l ad D ia d mX9_lineNow [.ref (ad 20 0)] s (some (.int r3)) s2 ∧ Z l ad D ia C X Y 17 [(0, .ref (ad 20 0))] [.int r3] s2)))) : Z l ad D ia C X Y 0 [(0, .ref (ad 20 0))] [] s := by
  refine Z_aload_n hC dX9_readLine_0 rfl rfl ?_
  refine Z_get (o := 20) (c := 9) (k := 14) (v := .int ((s 20).1 14)) hC rfl zs_9 lkX9_109 rfl dX9_readLine_1 ?_
  refine Z_iconst (v := 1) hC dX9_readLine_4 rfl ?_
  refine Z_icmp_ne (tgt := 15) hC dX9_readLine_5 (by decide) (fun c1 => ?_) (fun c1 => ?_)
  · have k := k.1 c1
    refine Z_bipush (v := (-4)) hC dX9_readLine_15 rfl ?_
    exact k
  · have k := k.2 c1
    refine Z_aload_n hC dX9_readLine_8 rfl rfl ?_
    obtain ⟨r3, s2, h4, k⟩ := k
    refine Z_callV (As := []) (rest := []) hC h4 cvX9_141 ⟨9, rfl, zs_9, _, rfl, rfl⟩ rfl rfl (Nat.le_of_ble_eq_true rfl) dX9_readLine_9 ?_
    refine Z_goto (tgt := 17) hC dX9_readLine_12 (by decide) ?_
    exact k
theorem eX9_readLine {X : Option Value} {Y : ZS} {s : ZS} (k : ∀ C : ZC, Zok ad D ia C (d + 1) cX9_readLine 2 RX9 none → ((¬ ((s 20).1 14) = 1 → Z l ad D ia C X Y 17 [(0, .ref (ad 20 0))] [.int ((-4))] s) ∧ (((s 20).1 14) = 1 → (∃ (r3 : Int32) (s2 : ZS), Ev l ad D ia d mX9_lineNow [.ref (ad 20 0)] s (some (.int r3)) s2 ∧ Z l ad D ia C X Y 17 [(0, .ref (ad 20 0))] [.int r3] s2)))) : Ev l ad D ia (d + 1) mX9_readLine [.ref (ad 20 0)] s X Y :=
  Ev.start (by decide +kernel) (Nat.le_of_ble_eq_true rfl) (fun C hC => bX9_readLine_0  hC (k C hC))
set_option maxRecDepth 100000 in
set_option maxHeartbeats 4000000 in
theorem bX9_readLine_17 {t0 : Int32} {C : ZC} {X : Option Value} {Y : ZS} {s : ZS} (hC : Zok ad D ia C (d + 1) cX9_readLine 2 RX9 none) (k : ((t0 = ((-4)) → (∃ s2 : ZS, Ev l ad D ia d mX9_needs [.ref (ad 20 0), .int 0, .int 2] s none s2 ∧ ((t0 = 5 → Z l ad D ia C X Y 70 [(0, .ref (ad 20 0)), (1, .int t0)] [.int 1, .ref (ad 20 0)] s2) ∧ (¬ t0 = 5 → ((¬ t0 = 4 → ((4 ≤ ((s2 20).1 7) → Z l ad D ia C X Y 70 [(0, .ref (ad 20 0)), (1, .int t0)] [.int 0, .ref (ad 20 0)] s2) ∧ (¬ 4 ≤ ((s2 20).1 7) → Z l ad D ia C X Y 70 [(0, .ref (ad 20 0)), (1, .int t0)] [.int 1, .ref (ad 20 0)] s2))) ∧ (t0 = 4 → ((8 ≤ ((s2 20).1 6) → Z l ad D ia C X Y 70 [(0, .ref (ad 20 0)), (1, .int t0)] [.int 0, .ref (ad 20 0)] s2) ∧ (¬ 8 ≤ ((s2 20).1 6) → Z l ad D ia C X Y 70 [(0, .ref (ad 20 0)), (1, .int t0)] [.int 1, .ref (ad 20 0)] s2)))))))) ∧ (¬ t0 = ((-4)) → (∃ s8 : ZS, Ev l ad D ia d mX9_needs [.ref (ad 20 0), .int 1, .int 2] s none s8 ∧ ((t0 = 5 → Z l ad D ia C X Y 70 [(0, .ref (ad 20 0)), (1, .int t0)] [.int 1, .ref (ad 20 0)] s8) ∧ (¬ t0 = 5 → ((¬ t0 = 4 → ((4 ≤ ((s8 20).1 7) → Z l ad D ia C X Y 70 [(0, .ref (ad 20 0)), (1, .int t0)] [.int 0, .ref (ad 20 0)] s8) ∧ (¬ 4 ≤ ((s8 20).1 7) → Z l ad D ia C X Y 70 [(0, .ref (ad 20 0)), (1, .int t0)] [.int 1, .ref (ad 20 0)] s8))) ∧ (t0 = 4 → ((8 ≤ ((s8 20).1 6) → Z l ad D ia C X Y 70 [(0, .ref (ad 20 0)), (1, .int t0)] [.int 0, .ref (ad 20 0)] s8) ∧ (¬ 8 ≤ ((s8 20).1 6) → Z l ad D ia C X Y 70 [(0, .ref (ad 20 0)), (1, .int t0)] [.int 1, .ref (ad 20 0)] s8)))))))))) : Z l ad D ia C X Y 17 [(0, .ref (ad 20 0))] [.int t0] s := by
  refine Z_istore_n (V2 := [(1, .int t0), (0, .ref (ad 20 0))]) hC dX9_readLine_17 rfl (by decide) rfl ?_
  refine Z_aload_n hC dX9_readLine_18 rfl rfl ?_
  refine Z_iload_n hC dX9_readLine_19 rfl rfl ?_
  refine Z_bipush (v := (-4)) hC dX9_readLine_20 rfl ?_
  refine Z_icmp_eq (tgt := 29) hC dX9_readLine_22 (by decide) (fun c1 => ?_) (fun c1 => ?_)
  · have k := k.1 c1
    refine Z_iconst (v := 0) hC dX9_readLine_29 rfl ?_
    refine Z_iconst (v := 2) hC dX9_readLine_30 rfl ?_
    obtain ⟨s2, h3, k⟩ := k
    refine Z_callV (As := [.int 0, .int 2]) (rest := []) hC h3 cvX9_123 ⟨9, rfl, zs_9, _, rfl, rfl⟩ rfl rfl (Nat.le_of_ble_eq_true rfl) dX9_readLine_31 ?_
    refine Z_aload_n hC dX9_readLine_34 rfl rfl ?_
    refine Z_iload_n hC dX9_readLine_35 rfl rfl ?_
    refine Z_iconst (v := 5) hC dX9_readLine_36 rfl ?_
    refine Z_icmp_eq (tgt := 65) hC dX9_readLine_37 (by decide) (fun c4 => ?_) (fun c4 => ?_)
    · have k := k.1 c4
      refine Z_iconst (v := 1) hC dX9_readLine_65 rfl ?_
      refine Z_goto (tgt := 70) hC dX9_readLine_66 (by decide) ?_
      exact Z_pick [1, 0] rfl k
    · have k := k.2 c4
      refine Z_iload_n hC dX9_readLine_40 rfl rfl ?_
      refine Z_iconst (v := 4) hC dX9_readLine_41 rfl ?_
      refine Z_icmp_ne (tgt := 57) hC dX9_readLine_42 (by decide) (fun c5 => ?_) (fun c5 => ?_)
      · have k := k.1 c5
        refine Z_aload_n hC dX9_readLine_57 rfl rfl ?_
        refine Z_get (o := 20) (c := 9) (k := 7) (v := .int ((s2 20).1 7)) hC rfl zs_9 lkX9_60 rfl dX9_readLine_58 ?_
        refine Z_iconst (v := 4) hC dX9_readLine_61 rfl ?_
        refine Z_icmp_ge (tgt := 69) hC dX9_readLine_62 (by decide) (fun c6 => ?_) (fun c6 => ?_)
        · have k := k.1 c6
          refine Z_iconst (v := 0) hC dX9_readLine_69 rfl ?_
          exact Z_pick [1, 0] rfl k
        · have k := k.2 c6
          refine Z_iconst (v := 1) hC dX9_readLine_65 rfl ?_
          refine Z_goto (tgt := 70) hC dX9_readLine_66 (by decide) ?_
          exact Z_pick [1, 0] rfl k
      · have k := k.2 c5
        refine Z_aload_n hC dX9_readLine_45 rfl rfl ?_
        refine Z_get (o := 20) (c := 9) (k := 6) (v := .int ((s2 20).1 6)) hC rfl zs_9 lkX9_56 rfl dX9_readLine_46 ?_
        refine Z_bipush (v := 8) hC dX9_readLine_49 rfl ?_
        refine Z_icmp_ge (tgt := 69) hC dX9_readLine_51 (by decide) (fun c7 => ?_) (fun c7 => ?_)
        · have k := k.1 c7
          refine Z_iconst (v := 0) hC dX9_readLine_69 rfl ?_
          exact Z_pick [1, 0] rfl k
        · have k := k.2 c7
          refine Z_goto (tgt := 65) hC dX9_readLine_54 (by decide) ?_
          refine Z_iconst (v := 1) hC dX9_readLine_65 rfl ?_
          refine Z_goto (tgt := 70) hC dX9_readLine_66 (by decide) ?_
          exact Z_pick [1, 0] rfl k
  · have k := k.2 c1
    refine Z_iconst (v := 1) hC dX9_readLine_25 rfl ?_
    refine Z_goto (tgt := 30) hC dX9_readLine_26 (by decide) ?_
    refine Z_iconst (v := 2) hC dX9_readLine_30 rfl ?_
    obtain ⟨s8, h9, k⟩ := k
    refine Z_callV (As := [.int 1, .int 2]) (rest := []) hC h9 cvX9_123 ⟨9, rfl, zs_9, _, rfl, rfl⟩ rfl rfl (Nat.le_of_ble_eq_true rfl) dX9_readLine_31 ?_
    refine Z_aload_n hC dX9_readLine_34 rfl rfl ?_
    refine Z_iload_n hC dX9_readLine_35 rfl rfl ?_
    refine Z_iconst (v := 5) hC dX9_readLine_36 rfl ?_
    refine Z_icmp_eq (tgt := 65) hC dX9_readLine_37 (by decide) (fun c10 => ?_) (fun c10 => ?_)
    · have k := k.1 c10
      refine Z_iconst (v := 1) hC dX9_readLine_65 rfl ?_
      refine Z_goto (tgt := 70) hC dX9_readLine_66 (by decide) ?_
      exact Z_pick [1, 0] rfl k
    · have k := k.2 c10
      refine Z_iload_n hC dX9_readLine_40 rfl rfl ?_
      refine Z_iconst (v := 4) hC dX9_readLine_41 rfl ?_
      refine Z_icmp_ne (tgt := 57) hC dX9_readLine_42 (by decide) (fun c11 => ?_) (fun c11 => ?_)
      · have k := k.1 c11
        refine Z_aload_n hC dX9_readLine_57 rfl rfl ?_
        refine Z_get (o := 20) (c := 9) (k := 7) (v := .int ((s8 20).1 7)) hC rfl zs_9 lkX9_60 rfl dX9_readLine_58 ?_
        refine Z_iconst (v := 4) hC dX9_readLine_61 rfl ?_
        refine Z_icmp_ge (tgt := 69) hC dX9_readLine_62 (by decide) (fun c12 => ?_) (fun c12 => ?_)
        · have k := k.1 c12
          refine Z_iconst (v := 0) hC dX9_readLine_69 rfl ?_
          exact Z_pick [1, 0] rfl k
        · have k := k.2 c12
          refine Z_iconst (v := 1) hC dX9_readLine_65 rfl ?_
          refine Z_goto (tgt := 70) hC dX9_readLine_66 (by decide) ?_
          exact Z_pick [1, 0] rfl k
      · have k := k.2 c11
        refine Z_aload_n hC dX9_readLine_45 rfl rfl ?_
        refine Z_get (o := 20) (c := 9) (k := 6) (v := .int ((s8 20).1 6)) hC rfl zs_9 lkX9_56 rfl dX9_readLine_46 ?_
        refine Z_bipush (v := 8) hC dX9_readLine_49 rfl ?_
        refine Z_icmp_ge (tgt := 69) hC dX9_readLine_51 (by decide) (fun c13 => ?_) (fun c13 => ?_)
        · have k := k.1 c13
          refine Z_iconst (v := 0) hC dX9_readLine_69 rfl ?_
          exact Z_pick [1, 0] rfl k
        · have k := k.2 c13
          refine Z_goto (tgt := 65) hC dX9_readLine_54 (by decide) ?_
          refine Z_iconst (v := 1) hC dX9_readLine_65 rfl ?_
          refine Z_goto (tgt := 70) hC dX9_readLine_66 (by decide) ?_
          exact Z_pick [1, 0] rfl k
set_option maxRecDepth 100000 in
set_option maxHeartbeats 4000000 in
theorem bX9_readLine_70 {x1 : Int32} {t0 : Int32} {C : ZC} {X : Option Value} {Y : ZS} {s : ZS} (hC : Zok ad D ia C (d + 1) cX9_readLine 2 RX9 none) (k : (∃ s1 : ZS, Ev l ad D ia d mX9_needs [.ref (ad 20 0), .int t0, .int 5] s none s1 ∧ ((¬ x1 = 5 → (∃ s4 : ZS, Ev l ad D ia d mX9_needs [.ref (ad 20 0), .int 1, .int 4] s1 none s4 ∧ ((¬ ((s4 20).1 8) = 0 → Z l ad D ia C X Y 114 [(0, .ref (ad 20 0)), (1, .int x1)] [.int 1, .ref (ad 20 0)] s4) ∧ (((s4 20).1 8) = 0 → ((¬ x1 = 5 → Z l ad D ia C X Y 114 [(0, .ref (ad 20 0)), (1, .int x1)] [.int 0, .ref (ad 20 0)] s4) ∧ (x1 = 5 → Z l ad D ia C X Y 114 [(0, .ref (ad 20 0)), (1, .int x1)] [.int 1, .ref (ad 20 0)] s4)))))) ∧ (x1 = 5 → ((¬ ((s1 20).1 8) = 0 → (∃ s9 : ZS, Ev l ad D ia d mX9_needs [.ref (ad 20 0), .int 0, .int 4] s1 none s9 ∧ ((¬ ((s9 20).1 8) = 0 → Z l ad D ia C X Y 114 [(0, .ref (ad 20 0)), (1, .int x1)] [.int 1, .ref (ad 20 0)] s9) ∧ (((s9 20).1 8) = 0 → ((¬ x1 = 5 → Z l ad D ia C X Y 114 [(0, .ref (ad 20 0)), (1, .int x1)] [.int 0, .ref (ad 20 0)] s9) ∧ (x1 = 5 → Z l ad D ia C X Y 114 [(0, .ref (ad 20 0)), (1, .int x1)] [.int 1, .ref (ad 20 0)] s9)))))) ∧ (((s1 20).1 8) = 0 → (∃ s13 : ZS, Ev l ad D ia d mX9_needs [.ref (ad 20 0), .int 1, .int 4] s1 none s13 ∧ ((¬ ((s13 20).1 8) = 0 → Z l ad D ia C X Y 114 [(0, .ref (ad 20 0)), (1, .int x1)] [.int 1, .ref (ad 20 0)] s13) ∧ (((s13 20).1 8) = 0 → ((¬ x1 = 5 → Z l ad D ia C X Y 114 [(0, .ref (ad 20 0)), (1, .int x1)] [.int 0, .ref (ad 20 0)] s13) ∧ (x1 = 5 → Z l ad D ia C X Y 114 [(0, .ref (ad 20 0)), (1, .int x1)] [.int 1, .ref (ad 20 0)] s13))))))))))) : Z l ad D ia C X Y 70 [(0, .ref (ad 20 0)), (1, .int x1)] [.int t0, .ref (ad 20 0)] s := by
  refine Z_iconst (v := 5) hC dX9_readLine_70 rfl ?_
  obtain ⟨s1, h2, k⟩ := k
  refine Z_callV (As := [.int t0, .int 5]) (rest := []) hC h2 cvX9_123 ⟨9, rfl, zs_9, _, rfl, rfl⟩ rfl rfl (Nat.le_of_ble_eq_true rfl) dX9_readLine_71 ?_
  refine Z_aload_n hC dX9_readLine_74 rfl rfl ?_
  refine Z_iload_n hC dX9_readLine_75 rfl rfl ?_
  refine Z_iconst (v := 5) hC dX9_readLine_76 rfl ?_
  refine Z_icmp_ne (tgt := 87) hC dX9_readLine_77 (by decide) (fun c3 => ?_) (fun c3 => ?_)
  · have k := k.1 c3
    refine Z_iconst (v := 1) hC dX9_readLine_87 rfl ?_
    refine Z_goto (tgt := 92) hC dX9_readLine_88 (by decide) ?_
    refine Z_iconst (v := 4) hC dX9_readLine_92 rfl ?_
    obtain ⟨s4, h5, k⟩ := k
    refine Z_callV (As := [.int 1, .int 4]) (rest := []) hC h5 cvX9_123 ⟨9, rfl, zs_9, _, rfl, rfl⟩ rfl rfl (Nat.le_of_ble_eq_true rfl) dX9_readLine_93 ?_
    refine Z_aload_n hC dX9_readLine_96 rfl rfl ?_
    refine Z_aload_n hC dX9_readLine_97 rfl rfl ?_
    refine Z_get (o := 20) (c := 9) (k := 8) (v := .int ((s4 20).1 8)) hC rfl zs_9 lkX9_63 rfl dX9_readLine_98 ?_
    refine Z_if_ne (tgt := 109) hC dX9_readLine_101 (by decide) (fun c6 => ?_) (fun c6 => ?_)
    · have k := k.1 c6
      refine Z_iconst (v := 1) hC dX9_readLine_109 rfl ?_
      refine Z_goto (tgt := 114) hC dX9_readLine_110 (by decide) ?_
      exact k
    · have k := k.2 c6
      refine Z_iload_n hC dX9_readLine_104 rfl rfl ?_
      refine Z_iconst (v := 5) hC dX9_readLine_105 rfl ?_
      refine Z_icmp_ne (tgt := 113) hC dX9_readLine_106 (by decide) (fun c7 => ?_) (fun c7 => ?_)
      · have k := k.1 c7
        refine Z_iconst (v := 0) hC dX9_readLine_113 rfl ?_
        exact k
      · have k := k.2 c7
        refine Z_iconst (v := 1) hC dX9_readLine_109 rfl ?_
        refine Z_goto (tgt := 114) hC dX9_readLine_110 (by decide) ?_
        exact k
  · have k := k.2 c3
    refine Z_aload_n hC dX9_readLine_80 rfl rfl ?_
    refine Z_get (o := 20) (c := 9) (k := 8) (v := .int ((s1 20).1 8)) hC rfl zs_9 lkX9_63 rfl dX9_readLine_81 ?_
    refine Z_if_ne (tgt := 91) hC dX9_readLine_84 (by decide) (fun c8 => ?_) (fun c8 => ?_)
    · have k := k.1 c8
      refine Z_iconst (v := 0) hC dX9_readLine_91 rfl ?_
      refine Z_iconst (v := 4) hC dX9_readLine_92 rfl ?_
      obtain ⟨s9, h10, k⟩ := k
      refine Z_callV (As := [.int 0, .int 4]) (rest := []) hC h10 cvX9_123 ⟨9, rfl, zs_9, _, rfl, rfl⟩ rfl rfl (Nat.le_of_ble_eq_true rfl) dX9_readLine_93 ?_
      refine Z_aload_n hC dX9_readLine_96 rfl rfl ?_
      refine Z_aload_n hC dX9_readLine_97 rfl rfl ?_
      refine Z_get (o := 20) (c := 9) (k := 8) (v := .int ((s9 20).1 8)) hC rfl zs_9 lkX9_63 rfl dX9_readLine_98 ?_
      refine Z_if_ne (tgt := 109) hC dX9_readLine_101 (by decide) (fun c11 => ?_) (fun c11 => ?_)
      · have k := k.1 c11
        refine Z_iconst (v := 1) hC dX9_readLine_109 rfl ?_
        refine Z_goto (tgt := 114) hC dX9_readLine_110 (by decide) ?_
        exact k
      · have k := k.2 c11
        refine Z_iload_n hC dX9_readLine_104 rfl rfl ?_
        refine Z_iconst (v := 5) hC dX9_readLine_105 rfl ?_
        refine Z_icmp_ne (tgt := 113) hC dX9_readLine_106 (by decide) (fun c12 => ?_) (fun c12 => ?_)
        · have k := k.1 c12
          refine Z_iconst (v := 0) hC dX9_readLine_113 rfl ?_
          exact k
        · have k := k.2 c12
          refine Z_iconst (v := 1) hC dX9_readLine_109 rfl ?_
          refine Z_goto (tgt := 114) hC dX9_readLine_110 (by decide) ?_
          exact k
    · have k := k.2 c8
      refine Z_iconst (v := 1) hC dX9_readLine_87 rfl ?_
      refine Z_goto (tgt := 92) hC dX9_readLine_88 (by decide) ?_
      refine Z_iconst (v := 4) hC dX9_readLine_92 rfl ?_
      obtain ⟨s13, h14, k⟩ := k
      refine Z_callV (As := [.int 1, .int 4]) (rest := []) hC h14 cvX9_123 ⟨9, rfl, zs_9, _, rfl, rfl⟩ rfl rfl (Nat.le_of_ble_eq_true rfl) dX9_readLine_93 ?_
      refine Z_aload_n hC dX9_readLine_96 rfl rfl ?_
      refine Z_aload_n hC dX9_readLine_97 rfl rfl ?_
      refine Z_get (o := 20) (c := 9) (k := 8) (v := .int ((s13 20).1 8)) hC rfl zs_9 lkX9_63 rfl dX9_readLine_98 ?_
      refine Z_if_ne (tgt := 109) hC dX9_readLine_101 (by decide) (fun c15 => ?_) (fun c15 => ?_)
      · have k := k.1 c15
        refine Z_iconst (v := 1) hC dX9_readLine_109 rfl ?_
        refine Z_goto (tgt := 114) hC dX9_readLine_110 (by decide) ?_
        exact k
      · have k := k.2 c15
        refine Z_iload_n hC dX9_readLine_104 rfl rfl ?_
        refine Z_iconst (v := 5) hC dX9_readLine_105 rfl ?_
        refine Z_icmp_ne (tgt := 113) hC dX9_readLine_106 (by decide) (fun c16 => ?_) (fun c16 => ?_)
        · have k := k.1 c16
          refine Z_iconst (v := 0) hC dX9_readLine_113 rfl ?_
          exact k
        · have k := k.2 c16
          refine Z_iconst (v := 1) hC dX9_readLine_109 rfl ?_
          refine Z_goto (tgt := 114) hC dX9_readLine_110 (by decide) ?_
          exact k
set_option maxRecDepth 100000 in
set_option maxHeartbeats 4000000 in
theorem bX9_readLine_114 {x1 : Int32} {t0 : Int32} {C : ZC} {X : Option Value} {Y : ZS} {s : ZS} (hC : Zok ad D ia C (d + 1) cX9_readLine 2 RX9 none) (k : ((narrow .boolean (.int t0) = .int t0 ∧ fits .boolean (.int t0) = true) ∧ (∀ s2 : ZS, s2 = stI s 20 8 t0 → (∃ s3 : ZS, Ev l ad D ia d mX9_takes [.ref (ad 20 0)] s2 none s3 ∧ ((((s3 20).1 16) ≤ 0 → (∃ s6 : ZS, Ev l ad D ia d mX9_readLineOf [.ref (ad 20 0), .int x1] s3 none s6 ∧ ((¬ ((s6 20).1 16) = 0 → (∃ s9 : ZS, Ev l ad D ia d mX9_takes [.ref (ad 20 0)] s6 none s9 ∧ (X = none ∧ Y = s9))) ∧ (((s6 20).1 16) = 0 → ((¬ ((s6 20).1 14) = 3 → (∃ s12 : ZS, Ev l ad D ia d mX9_needs [.ref (ad 20 0), .int 0, .int 2] s6 none s12 ∧ (∃ s14 : ZS, Ev l ad D ia d mX9_takes [.ref (ad 20 0)] s12 none s14 ∧ (X = none ∧ Y = s14)))) ∧ (((s6 20).1 14) = 3 → (∃ s16 : ZS, Ev l ad D ia d mX9_needs [.ref (ad 20 0), .int 1, .int 2] s6 none s16 ∧ (∃ s18 : ZS, Ev l ad D ia d mX9_takes [.ref (ad 20 0)] s16 none s18 ∧ (X = none ∧ Y = s18))))))))) ∧ (¬ ((s3 20).1 16) ≤ 0 → (X = none ∧ Y = s3))))))) : Z l ad D ia C X Y 114 [(0, .ref (ad 20 0)), (1, .int x1)] [.int t0, .ref (ad 20 0)] s := by
  obtain ⟨h1, k⟩ := k
  refine Z_putI (o := 20) (k := 8) hC rfl zs_9 pkX9_63 h1.1 h1.2 (hsX9_8 _ _ _) dX9_readLine_114 (fun s2 es2 => ?_)
  have k := k s2 es2
  refine Z_aload_n hC dX9_readLine_117 rfl rfl ?_
  obtain ⟨s3, h4, k⟩ := k
  refine Z_callV (As := []) (rest := []) hC h4 cvX9_131 ⟨9, rfl, zs_9, _, rfl, rfl⟩ rfl rfl (Nat.le_of_ble_eq_true rfl) dX9_readLine_118 ?_
  refine Z_aload_n hC dX9_readLine_121 rfl rfl ?_
  refine Z_get (o := 20) (c := 9) (k := 16) (v := .int ((s3 20).1 16)) hC rfl zs_9 lkX9_85 rfl dX9_readLine_122 ?_
  refine Z_if_le (tgt := 129) hC dX9_readLine_125 (by decide) (fun c5 => ?_) (fun c5 => ?_)
  · have k := k.1 c5
    refine Z_aload_n hC dX9_readLine_129 rfl rfl ?_
    refine Z_iload_n hC dX9_readLine_130 rfl rfl ?_
    obtain ⟨s6, h7, k⟩ := k
    refine Z_callV (As := [.int x1]) (rest := []) hC h7 cvX9_144 ⟨9, rfl, zs_9, _, rfl, rfl⟩ rfl rfl (Nat.le_of_ble_eq_true rfl) dX9_readLine_131 ?_
    refine Z_aload_n hC dX9_readLine_134 rfl rfl ?_
    refine Z_get (o := 20) (c := 9) (k := 16) (v := .int ((s6 20).1 16)) hC rfl zs_9 lkX9_85 rfl dX9_readLine_135 ?_
    refine Z_if_ne (tgt := 159) hC dX9_readLine_138 (by decide) (fun c8 => ?_) (fun c8 => ?_)
    · have k := k.1 c8
      refine Z_aload_n hC dX9_readLine_159 rfl rfl ?_
      obtain ⟨s9, h10, k⟩ := k
      refine Z_callV (As := []) (rest := []) hC h10 cvX9_131 ⟨9, rfl, zs_9, _, rfl, rfl⟩ rfl rfl (Nat.le_of_ble_eq_true rfl) dX9_readLine_160 ?_
      exact Z_vret hC dX9_readLine_163 k.1 k.2
    · have k := k.2 c8
      refine Z_aload_n hC dX9_readLine_141 rfl rfl ?_
      refine Z_aload_n hC dX9_readLine_142 rfl rfl ?_
      refine Z_get (o := 20) (c := 9) (k := 14) (v := .int ((s6 20).1 14)) hC rfl zs_9 lkX9_109 rfl dX9_readLine_143 ?_
      refine Z_iconst (v := 3) hC dX9_readLine_146 rfl ?_
      refine Z_icmp_ne (tgt := 154) hC dX9_readLine_147 (by decide) (fun c11 => ?_) (fun c11 => ?_)
      · have k := k.1 c11
        refine Z_iconst (v := 0) hC dX9_readLine_154 rfl ?_
        refine Z_iconst (v := 2) hC dX9_readLine_155 rfl ?_
        obtain ⟨s12, h13, k⟩ := k
        refine Z_callV (As := [.int 0, .int 2]) (rest := []) hC h13 cvX9_123 ⟨9, rfl, zs_9, _, rfl, rfl⟩ rfl rfl (Nat.le_of_ble_eq_true rfl) dX9_readLine_156 ?_
        refine Z_aload_n hC dX9_readLine_159 rfl rfl ?_
        obtain ⟨s14, h15, k⟩ := k
        refine Z_callV (As := []) (rest := []) hC h15 cvX9_131 ⟨9, rfl, zs_9, _, rfl, rfl⟩ rfl rfl (Nat.le_of_ble_eq_true rfl) dX9_readLine_160 ?_
        exact Z_vret hC dX9_readLine_163 k.1 k.2
      · have k := k.2 c11
        refine Z_iconst (v := 1) hC dX9_readLine_150 rfl ?_
        refine Z_goto (tgt := 155) hC dX9_readLine_151 (by decide) ?_
        refine Z_iconst (v := 2) hC dX9_readLine_155 rfl ?_
        obtain ⟨s16, h17, k⟩ := k
        refine Z_callV (As := [.int 1, .int 2]) (rest := []) hC h17 cvX9_123 ⟨9, rfl, zs_9, _, rfl, rfl⟩ rfl rfl (Nat.le_of_ble_eq_true rfl) dX9_readLine_156 ?_
        refine Z_aload_n hC dX9_readLine_159 rfl rfl ?_
        obtain ⟨s18, h19, k⟩ := k
        refine Z_callV (As := []) (rest := []) hC h19 cvX9_131 ⟨9, rfl, zs_9, _, rfl, rfl⟩ rfl rfl (Nat.le_of_ble_eq_true rfl) dX9_readLine_160 ?_
        exact Z_vret hC dX9_readLine_163 k.1 k.2
  · have k := k.2 c5
    exact Z_vret hC dX9_readLine_128 k.1 k.2
set_option maxRecDepth 100000 in
set_option maxHeartbeats 4000000 in
theorem bX9_text_0 {C : ZC} {X : Option Value} {Y : ZS} {s : ZS} (hC : Zok ad D ia C (d + 1) cX9_text 2 RX9 (some .int)) (k : (∀ s1 : ZS, s1 = stI s 20 16 0 → (∀ s2 : ZS, s2 = stI s1 20 12 0 → (∃ s3 : ZS, Ev l ad D ia d mX9_firstDraft [.ref (ad 20 0)] s2 none s3 ∧ (∃ s5 : ZS, Ev l ad D ia d mX9_takes [.ref (ad 20 0)] s3 none s5 ∧ Z l ad D ia C X Y 20 [(0, .ref (ad 20 0)), (1, .int 0)] [] s5))))) : Z l ad D ia C X Y 0 [(0, .ref (ad 20 0))] [] s := by
  refine Z_iconst (v := 0) hC dX9_text_0 rfl ?_
  refine Z_istore_n (V2 := [(1, .int 0), (0, .ref (ad 20 0))]) hC dX9_text_1 rfl (by decide) rfl ?_
  refine Z_aload_n hC dX9_text_2 rfl rfl ?_
  refine Z_iconst (v := 0) hC dX9_text_3 rfl ?_
  refine Z_putI (o := 20) (k := 16) hC rfl zs_9 pkX9_85 rfl rfl (hsX9_16 _ _ _) dX9_text_4 (fun s1 es1 => ?_)
  have k := k s1 es1
  refine Z_aload_n hC dX9_text_7 rfl rfl ?_
  refine Z_iconst (v := 0) hC dX9_text_8 rfl ?_
  refine Z_putI (o := 20) (k := 12) hC rfl zs_9 pkX9_94 rfl rfl (hsX9_12 _ _ _) dX9_text_9 (fun s2 es2 => ?_)
  have k := k s2 es2
  refine Z_aload_n hC dX9_text_12 rfl rfl ?_
  obtain ⟨s3, h4, k⟩ := k
  refine Z_callV (As := []) (rest := []) hC h4 cvX9_50 ⟨9, rfl, zs_9, _, rfl, rfl⟩ rfl rfl (Nat.le_of_ble_eq_true rfl) dX9_text_13 ?_
  refine Z_aload_n hC dX9_text_16 rfl rfl ?_
  obtain ⟨s5, h6, k⟩ := k
  refine Z_callV (As := []) (rest := []) hC h6 cvX9_131 ⟨9, rfl, zs_9, _, rfl, rfl⟩ rfl rfl (Nat.le_of_ble_eq_true rfl) dX9_text_17 ?_
  exact Z_pick [1, 0] rfl k
theorem eX9_text {X : Option Value} {Y : ZS} {s : ZS} (k : ∀ C : ZC, Zok ad D ia C (d + 1) cX9_text 2 RX9 (some .int) → (∀ s1 : ZS, s1 = stI s 20 16 0 → (∀ s2 : ZS, s2 = stI s1 20 12 0 → (∃ s3 : ZS, Ev l ad D ia d mX9_firstDraft [.ref (ad 20 0)] s2 none s3 ∧ (∃ s5 : ZS, Ev l ad D ia d mX9_takes [.ref (ad 20 0)] s3 none s5 ∧ Z l ad D ia C X Y 20 [(0, .ref (ad 20 0)), (1, .int 0)] [] s5))))) : Ev l ad D ia (d + 1) mX9_text [.ref (ad 20 0)] s X Y :=
  Ev.start (by decide +kernel) (Nat.le_of_ble_eq_true rfl) (fun C hC => bX9_text_0  hC (k C hC))
set_option maxRecDepth 100000 in
set_option maxHeartbeats 4000000 in
theorem bX9_text_20 {x1 : Int32} {C : ZC} {X : Option Value} {Y : ZS} {s : ZS} (hC : Zok ad D ia C (d + 1) cX9_text 2 RX9 (some .int)) (k : ((¬ ((s 20).1 16) = 0 → Z l ad D ia C X Y 44 [(0, .ref (ad 20 0)), (1, .int x1)] [] s) ∧ (((s 20).1 16) = 0 → ((((s 20).1 14) = 0 → Z l ad D ia C X Y 44 [(0, .ref (ad 20 0)), (1, .int x1)] [] s) ∧ (¬ ((s 20).1 14) = 0 → (∃ s3 : ZS, Ev l ad D ia d mX9_readLine [.ref (ad 20 0)] s none s3 ∧ Z l ad D ia C X Y 20 [(0, .ref (ad 20 0)), (1, .int (x1 + 1))] [] s3)))))) : Z l ad D ia C X Y 20 [(0, .ref (ad 20 0)), (1, .int x1)] [] s := by
  refine Z_aload_n hC dX9_text_20 rfl rfl ?_
  refine Z_get (o := 20) (c := 9) (k := 16) (v := .int ((s 20).1 16)) hC rfl zs_9 lkX9_85 rfl dX9_text_21 ?_
  refine Z_if_ne (tgt := 44) hC dX9_text_24 (by decide) (fun c1 => ?_) (fun c1 => ?_)
  · have k := k.1 c1
    exact k
  · have k := k.2 c1
    refine Z_aload_n hC dX9_text_27 rfl rfl ?_
    refine Z_get (o := 20) (c := 9) (k := 14) (v := .int ((s 20).1 14)) hC rfl zs_9 lkX9_109 rfl dX9_text_28 ?_
    refine Z_if_eq (tgt := 44) hC dX9_text_31 (by decide) (fun c2 => ?_) (fun c2 => ?_)
    · have k := k.1 c2
      exact k
    · have k := k.2 c2
      refine Z_aload_n hC dX9_text_34 rfl rfl ?_
      obtain ⟨s3, h4, k⟩ := k
      refine Z_callV (As := []) (rest := []) hC h4 cvX9_148 ⟨9, rfl, zs_9, _, rfl, rfl⟩ rfl rfl (Nat.le_of_ble_eq_true rfl) dX9_text_35 ?_
      refine Z_iinc (v := x1 + 1) (V2 := [(1, .int (x1 + 1)), (0, .ref (ad 20 0))]) hC dX9_text_38 rfl rfl (by decide) rfl ?_
      refine Z_goto (tgt := 20) hC dX9_text_41 (by decide) ?_
      exact Z_pick [1, 0] rfl k
set_option maxRecDepth 100000 in
set_option maxHeartbeats 4000000 in
theorem bX9_text_44 {x1 : Int32} {C : ZC} {X : Option Value} {Y : ZS} {s : ZS} (hC : Zok ad D ia C (d + 1) cX9_text 2 RX9 (some .int)) (k : ((¬ ((s 20).1 16) = 0 → (∀ s2 : ZS, s2 = stI s 20 11 0 → ((((s2 20).1 16) ≤ 0 → (∃ s4 : ZS, Ev l ad D ia d mX9_keepDraft [.ref (ad 20 0)] s2 none s4 ∧ (X = some (.int x1) ∧ Y = s4))) ∧ (¬ ((s2 20).1 16) ≤ 0 → (X = some (.int (((-10)) - ((s2 20).1 17))) ∧ Y = s2))))) ∧ (((s 20).1 16) = 0 → ((((s 20).1 6) ≤ ((s 20).1 9) → (∃ s7 : ZS, Ev l ad D ia d mX9_needs [.ref (ad 20 0), .int 0, .int 6] s none s7 ∧ (∀ s9 : ZS, s9 = stI s7 20 11 0 → ((((s9 20).1 16) ≤ 0 → (∃ s11 : ZS, Ev l ad D ia d mX9_keepDraft [.ref (ad 20 0)] s9 none s11 ∧ (X = some (.int x1) ∧ Y = s11))) ∧ (¬ ((s9 20).1 16) ≤ 0 → (X = some (.int (((-10)) - ((s9 20).1 17))) ∧ Y = s9)))))) ∧ (¬ ((s 20).1 6) ≤ ((s 20).1 9) → (∃ s13 : ZS, Ev l ad D ia d mX9_needs [.ref (ad 20 0), .int 1, .int 6] s none s13 ∧ (∀ s15 : ZS, s15 = stI s13 20 11 0 → ((((s15 20).1 16) ≤ 0 → (∃ s17 : ZS, Ev l ad D ia d mX9_keepDraft [.ref (ad 20 0)] s15 none s17 ∧ (X = some (.int x1) ∧ Y = s17))) ∧ (¬ ((s15 20).1 16) ≤ 0 → (X = some (.int (((-10)) - ((s15 20).1 17))) ∧ Y = s15)))))))))) : Z l ad D ia C X Y 44 [(0, .ref (ad 20 0)), (1, .int x1)] [] s := by
  refine Z_aload_n hC dX9_text_44 rfl rfl ?_
  refine Z_get (o := 20) (c := 9) (k := 16) (v := .int ((s 20).1 16)) hC rfl zs_9 lkX9_85 rfl dX9_text_45 ?_
  refine Z_if_ne (tgt := 73) hC dX9_text_48 (by decide) (fun c1 => ?_) (fun c1 => ?_)
  · have k := k.1 c1
    refine Z_aload_n hC dX9_text_73 rfl rfl ?_
    refine Z_iconst (v := 0) hC dX9_text_74 rfl ?_
    refine Z_putI (o := 20) (k := 11) hC rfl zs_9 pkX9_82 rfl rfl (hsX9_11 _ _ _) dX9_text_75 (fun s2 es2 => ?_)
    have k := k s2 es2
    refine Z_aload_n hC dX9_text_78 rfl rfl ?_
    refine Z_get (o := 20) (c := 9) (k := 16) (v := .int ((s2 20).1 16)) hC rfl zs_9 lkX9_85 rfl dX9_text_79 ?_
    refine Z_if_le (tgt := 93) hC dX9_text_82 (by decide) (fun c3 => ?_) (fun c3 => ?_)
    · have k := k.1 c3
      refine Z_aload_n hC dX9_text_93 rfl rfl ?_
      obtain ⟨s4, h5, k⟩ := k
      refine Z_callV (As := []) (rest := []) hC h5 cvX9_53 ⟨9, rfl, zs_9, _, rfl, rfl⟩ rfl rfl (Nat.le_of_ble_eq_true rfl) dX9_text_94 ?_
      refine Z_iload_n hC dX9_text_97 rfl rfl ?_
      exact Z_iret hC dX9_text_98 k.1 k.2
    · have k := k.2 c3
      refine Z_bipush (v := (-10)) hC dX9_text_85 rfl ?_
      refine Z_aload_n hC dX9_text_87 rfl rfl ?_
      refine Z_get (o := 20) (c := 9) (k := 17) (v := .int ((s2 20).1 17)) hC rfl zs_9 lkX9_91 rfl dX9_text_88 ?_
      refine Z_isub hC dX9_text_91 ?_
      exact Z_iret hC dX9_text_92 k.1 k.2
  · have k := k.2 c1
    refine Z_aload_n hC dX9_text_51 rfl rfl ?_
    refine Z_aload_n hC dX9_text_52 rfl rfl ?_
    refine Z_get (o := 20) (c := 9) (k := 9) (v := .int ((s 20).1 9)) hC rfl zs_9 lkX9_67 rfl dX9_text_53 ?_
    refine Z_aload_n hC dX9_text_56 rfl rfl ?_
    refine Z_get (o := 20) (c := 9) (k := 6) (v := .int ((s 20).1 6)) hC rfl zs_9 lkX9_56 rfl dX9_text_57 ?_
    refine Z_icmp_ge (tgt := 67) hC dX9_text_60 (by decide) (fun c6 => ?_) (fun c6 => ?_)
    · have k := k.1 c6
      refine Z_iconst (v := 0) hC dX9_text_67 rfl ?_
      refine Z_bipush (v := 6) hC dX9_text_68 rfl ?_
      obtain ⟨s7, h8, k⟩ := k
      refine Z_callV (As := [.int 0, .int 6]) (rest := []) hC h8 cvX9_123 ⟨9, rfl, zs_9, _, rfl, rfl⟩ rfl rfl (Nat.le_of_ble_eq_true rfl) dX9_text_70 ?_
      refine Z_aload_n hC dX9_text_73 rfl rfl ?_
      refine Z_iconst (v := 0) hC dX9_text_74 rfl ?_
      refine Z_putI (o := 20) (k := 11) hC rfl zs_9 pkX9_82 rfl rfl (hsX9_11 _ _ _) dX9_text_75 (fun s9 es9 => ?_)
      have k := k s9 es9
      refine Z_aload_n hC dX9_text_78 rfl rfl ?_
      refine Z_get (o := 20) (c := 9) (k := 16) (v := .int ((s9 20).1 16)) hC rfl zs_9 lkX9_85 rfl dX9_text_79 ?_
      refine Z_if_le (tgt := 93) hC dX9_text_82 (by decide) (fun c10 => ?_) (fun c10 => ?_)
      · have k := k.1 c10
        refine Z_aload_n hC dX9_text_93 rfl rfl ?_
        obtain ⟨s11, h12, k⟩ := k
        refine Z_callV (As := []) (rest := []) hC h12 cvX9_53 ⟨9, rfl, zs_9, _, rfl, rfl⟩ rfl rfl (Nat.le_of_ble_eq_true rfl) dX9_text_94 ?_
        refine Z_iload_n hC dX9_text_97 rfl rfl ?_
        exact Z_iret hC dX9_text_98 k.1 k.2
      · have k := k.2 c10
        refine Z_bipush (v := (-10)) hC dX9_text_85 rfl ?_
        refine Z_aload_n hC dX9_text_87 rfl rfl ?_
        refine Z_get (o := 20) (c := 9) (k := 17) (v := .int ((s9 20).1 17)) hC rfl zs_9 lkX9_91 rfl dX9_text_88 ?_
        refine Z_isub hC dX9_text_91 ?_
        exact Z_iret hC dX9_text_92 k.1 k.2
    · have k := k.2 c6
      refine Z_iconst (v := 1) hC dX9_text_63 rfl ?_
      refine Z_goto (tgt := 68) hC dX9_text_64 (by decide) ?_
      refine Z_bipush (v := 6) hC dX9_text_68 rfl ?_
      obtain ⟨s13, h14, k⟩ := k
      refine Z_callV (As := [.int 1, .int 6]) (rest := []) hC h14 cvX9_123 ⟨9, rfl, zs_9, _, rfl, rfl⟩ rfl rfl (Nat.le_of_ble_eq_true rfl) dX9_text_70 ?_
      refine Z_aload_n hC dX9_text_73 rfl rfl ?_
      refine Z_iconst (v := 0) hC dX9_text_74 rfl ?_
      refine Z_putI (o := 20) (k := 11) hC rfl zs_9 pkX9_82 rfl rfl (hsX9_11 _ _ _) dX9_text_75 (fun s15 es15 => ?_)
      have k := k s15 es15
      refine Z_aload_n hC dX9_text_78 rfl rfl ?_
      refine Z_get (o := 20) (c := 9) (k := 16) (v := .int ((s15 20).1 16)) hC rfl zs_9 lkX9_85 rfl dX9_text_79 ?_
      refine Z_if_le (tgt := 93) hC dX9_text_82 (by decide) (fun c16 => ?_) (fun c16 => ?_)
      · have k := k.1 c16
        refine Z_aload_n hC dX9_text_93 rfl rfl ?_
        obtain ⟨s17, h18, k⟩ := k
        refine Z_callV (As := []) (rest := []) hC h18 cvX9_53 ⟨9, rfl, zs_9, _, rfl, rfl⟩ rfl rfl (Nat.le_of_ble_eq_true rfl) dX9_text_94 ?_
        refine Z_iload_n hC dX9_text_97 rfl rfl ?_
        exact Z_iret hC dX9_text_98 k.1 k.2
      · have k := k.2 c16
        refine Z_bipush (v := (-10)) hC dX9_text_85 rfl ?_
        refine Z_aload_n hC dX9_text_87 rfl rfl ?_
        refine Z_get (o := 20) (c := 9) (k := 17) (v := .int ((s15 20).1 17)) hC rfl zs_9 lkX9_91 rfl dX9_text_88 ?_
        refine Z_isub hC dX9_text_91 ?_
        exact Z_iret hC dX9_text_92 k.1 k.2
set_option maxRecDepth 100000 in
set_option maxHeartbeats 4000000 in
theorem bX9_fault_0 {C : ZC} {X : Option Value} {Y : ZS} {s : ZS} (hC : Zok ad D ia C d cX9_fault 1 RX9 (some .int)) (k : (X = some (.int ((s 20).1 16)) ∧ Y = s)) : Z l ad D ia C X Y 0 [(0, .ref (ad 20 0))] [] s := by
  refine Z_aload_n hC dX9_fault_0 rfl rfl ?_
  refine Z_get (o := 20) (c := 9) (k := 16) (v := .int ((s 20).1 16)) hC rfl zs_9 lkX9_85 rfl dX9_fault_1 ?_
  exact Z_iret hC dX9_fault_4 k.1 k.2
theorem eX9_fault {X : Option Value} {Y : ZS} {s : ZS} (k : (X = some (.int ((s 20).1 16)) ∧ Y = s)) : Ev l ad D ia d mX9_fault [.ref (ad 20 0)] s X Y :=
  Ev.start (by decide +kernel) (Nat.le_of_ble_eq_true rfl) (fun C hC => bX9_fault_0  hC k)
set_option maxRecDepth 100000 in
set_option maxHeartbeats 4000000 in
theorem bX9_isBook_0 {x1 : Int32} {C : ZC} {X : Option Value} {Y : ZS} {s : ZS} (hC : Zok ad D ia C (d + 1) cX9_isBook 2 RX9 (some .boolean)) (k : (∃ (r2 : Int32) (s1 : ZS), Ev l ad D ia d mX9_in [.long x1.toInt64, .long 0, .long ((((s 20).1 3) - 1).toInt64)] s (some (.int r2)) s1 ∧ (narrow .boolean (.int r2) = .int r2 ∧ X = some (.int r2) ∧ Y = s1))) : Z l ad D ia C X Y 0 [(0, .ref (ad 20 0)), (1, .int x1)] [] s := by
  refine Z_iload_n hC dX9_isBook_0 rfl rfl ?_
  refine Z_i2l hC dX9_isBook_1 ?_
  refine Z_lconst (v := 0) hC dX9_isBook_2 rfl ?_
  refine Z_aload_n hC dX9_isBook_3 rfl rfl ?_
  refine Z_get (o := 20) (c := 9) (k := 3) (v := .int ((s 20).1 3)) hC rfl zs_9 lkX9_70 rfl dX9_isBook_4 ?_
  refine Z_iconst (v := 1) hC dX9_isBook_7 rfl ?_
  refine Z_isub hC dX9_isBook_8 ?_
  refine Z_i2l hC dX9_isBook_9 ?_
  obtain ⟨r2, s1, h3, k⟩ := k
  refine Z_callS (As := [.long x1.toInt64, .long 0, .long ((((s 20).1 3) - 1).toInt64)]) (rest := []) hC h3 csX9_78 rfl rfl (Nat.le_of_ble_eq_true rfl) dX9_isBook_10 ?_
  exact Z_zret hC dX9_isBook_13 k.1 k.2.1 k.2.2
theorem eX9_isBook {x1 : Int32} {X : Option Value} {Y : ZS} {s : ZS} (k : (∃ (r2 : Int32) (s1 : ZS), Ev l ad D ia d mX9_in [.long x1.toInt64, .long 0, .long ((((s 20).1 3) - 1).toInt64)] s (some (.int r2)) s1 ∧ (narrow .boolean (.int r2) = .int r2 ∧ X = some (.int r2) ∧ Y = s1))) : Ev l ad D ia (d + 1) mX9_isBook [.ref (ad 20 0), .int x1] s X Y :=
  Ev.start (by decide +kernel) (Nat.le_of_ble_eq_true rfl) (fun C hC => bX9_isBook_0  hC k)
set_option maxRecDepth 100000 in
set_option maxHeartbeats 4000000 in
theorem bX9_isReader_0 {x1 : Int32} {C : ZC} {X : Option Value} {Y : ZS} {s : ZS} (hC : Zok ad D ia C (d + 1) cX9_isReader 2 RX9 (some .boolean)) (k : (∃ (r2 : Int32) (s1 : ZS), Ev l ad D ia d mX9_in [.long x1.toInt64, .long 0, .long ((((s 20).1 4) - 1).toInt64)] s (some (.int r2)) s1 ∧ (narrow .boolean (.int r2) = .int r2 ∧ X = some (.int r2) ∧ Y = s1))) : Z l ad D ia C X Y 0 [(0, .ref (ad 20 0)), (1, .int x1)] [] s := by
  refine Z_iload_n hC dX9_isReader_0 rfl rfl ?_
  refine Z_i2l hC dX9_isReader_1 ?_
  refine Z_lconst (v := 0) hC dX9_isReader_2 rfl ?_
  refine Z_aload_n hC dX9_isReader_3 rfl rfl ?_
  refine Z_get (o := 20) (c := 9) (k := 4) (v := .int ((s 20).1 4)) hC rfl zs_9 lkX9_73 rfl dX9_isReader_4 ?_
  refine Z_iconst (v := 1) hC dX9_isReader_7 rfl ?_
  refine Z_isub hC dX9_isReader_8 ?_
  refine Z_i2l hC dX9_isReader_9 ?_
  obtain ⟨r2, s1, h3, k⟩ := k
  refine Z_callS (As := [.long x1.toInt64, .long 0, .long ((((s 20).1 4) - 1).toInt64)]) (rest := []) hC h3 csX9_78 rfl rfl (Nat.le_of_ble_eq_true rfl) dX9_isReader_10 ?_
  exact Z_zret hC dX9_isReader_13 k.1 k.2.1 k.2.2
theorem eX9_isReader {x1 : Int32} {X : Option Value} {Y : ZS} {s : ZS} (k : (∃ (r2 : Int32) (s1 : ZS), Ev l ad D ia d mX9_in [.long x1.toInt64, .long 0, .long ((((s 20).1 4) - 1).toInt64)] s (some (.int r2)) s1 ∧ (narrow .boolean (.int r2) = .int r2 ∧ X = some (.int r2) ∧ Y = s1))) : Ev l ad D ia (d + 1) mX9_isReader [.ref (ad 20 0), .int x1] s X Y :=
  Ev.start (by decide +kernel) (Nat.le_of_ble_eq_true rfl) (fun C hC => bX9_isReader_0  hC k)
set_option maxRecDepth 100000 in
set_option maxHeartbeats 4000000 in
theorem bX9_isBay_0 {x0 : Int32} {C : ZC} {X : Option Value} {Y : ZS} {s : ZS} (hC : Zok ad D ia C (d + 1) cX9_isBay 1 RX9 (some .boolean)) (k : (∃ (r2 : Int32) (s1 : ZS), Ev l ad D ia d mX9_in [.long x0.toInt64, .long 0, .long ((7))] s (some (.int r2)) s1 ∧ (narrow .boolean (.int r2) = .int r2 ∧ X = some (.int r2) ∧ Y = s1))) : Z l ad D ia C X Y 0 [(0, .int x0)] [] s := by
  refine Z_iload_n hC dX9_isBay_0 rfl rfl ?_
  refine Z_i2l hC dX9_isBay_1 ?_
  refine Z_lconst (v := 0) hC dX9_isBay_2 rfl ?_
  refine Z_ldc2 hC clX9_151 dX9_isBay_3 ?_
  obtain ⟨r2, s1, h3, k⟩ := k
  refine Z_callS (As := [.long x0.toInt64, .long 0, .long ((7))]) (rest := []) hC h3 csX9_78 rfl rfl (Nat.le_of_ble_eq_true rfl) dX9_isBay_6 ?_
  exact Z_zret hC dX9_isBay_9 k.1 k.2.1 k.2.2
theorem eX9_isBay {x0 : Int32} {X : Option Value} {Y : ZS} {s : ZS} (k : (∃ (r2 : Int32) (s1 : ZS), Ev l ad D ia d mX9_in [.long x0.toInt64, .long 0, .long ((7))] s (some (.int r2)) s1 ∧ (narrow .boolean (.int r2) = .int r2 ∧ X = some (.int r2) ∧ Y = s1))) : Ev l ad D ia (d + 1) mX9_isBay [.int x0] s X Y :=
  Ev.start (by decide +kernel) (Nat.le_of_ble_eq_true rfl) (fun C hC => bX9_isBay_0  hC k)
set_option maxRecDepth 100000 in
set_option maxHeartbeats 4000000 in
theorem bX9_isPart_0 {x0 : Int32} {C : ZC} {X : Option Value} {Y : ZS} {s : ZS} (hC : Zok ad D ia C (d + 1) cX9_isPart 1 RX9 (some .boolean)) (k : (∃ (r2 : Int32) (s1 : ZS), Ev l ad D ia d mX9_in [.long x0.toInt64, .long 0, .long 1] s (some (.int r2)) s1 ∧ (narrow .boolean (.int r2) = .int r2 ∧ X = some (.int r2) ∧ Y = s1))) : Z l ad D ia C X Y 0 [(0, .int x0)] [] s := by
  refine Z_iload_n hC dX9_isPart_0 rfl rfl ?_
  refine Z_i2l hC dX9_isPart_1 ?_
  refine Z_lconst (v := 0) hC dX9_isPart_2 rfl ?_
  refine Z_lconst (v := 1) hC dX9_isPart_3 rfl ?_
  obtain ⟨r2, s1, h3, k⟩ := k
  refine Z_callS (As := [.long x0.toInt64, .long 0, .long 1]) (rest := []) hC h3 csX9_78 rfl rfl (Nat.le_of_ble_eq_true rfl) dX9_isPart_4 ?_
  exact Z_zret hC dX9_isPart_7 k.1 k.2.1 k.2.2
theorem eX9_isPart {x0 : Int32} {X : Option Value} {Y : ZS} {s : ZS} (k : (∃ (r2 : Int32) (s1 : ZS), Ev l ad D ia d mX9_in [.long x0.toInt64, .long 0, .long 1] s (some (.int r2)) s1 ∧ (narrow .boolean (.int r2) = .int r2 ∧ X = some (.int r2) ∧ Y = s1))) : Ev l ad D ia (d + 1) mX9_isPart [.int x0] s X Y :=
  Ev.start (by decide +kernel) (Nat.le_of_ble_eq_true rfl) (fun C hC => bX9_isPart_0  hC k)
set_option maxRecDepth 100000 in
set_option maxHeartbeats 4000000 in
theorem bX9_starts_0 {C : ZC} {X : Option Value} {Y : ZS} {s : ZS} (hC : Zok ad D ia C d cX9_starts 2 RX9 none) (k : Z l ad D ia C X Y 2 [(0, .ref (ad 20 0)), (1, .int 0)] [] s) : Z l ad D ia C X Y 0 [(0, .ref (ad 20 0))] [] s := by
  refine Z_iconst (v := 0) hC dX9_starts_0 rfl ?_
  refine Z_istore_n (V2 := [(1, .int 0), (0, .ref (ad 20 0))]) hC dX9_starts_1 rfl (by decide) rfl ?_
  exact Z_pick [1, 0] rfl k
theorem eX9_starts {X : Option Value} {Y : ZS} {s : ZS} (k : ∀ C : ZC, Zok ad D ia C d cX9_starts 2 RX9 none → Z l ad D ia C X Y 2 [(0, .ref (ad 20 0)), (1, .int 0)] [] s) : Ev l ad D ia d mX9_starts [.ref (ad 20 0)] s X Y :=
  Ev.start (by decide +kernel) (Nat.le_of_ble_eq_true rfl) (fun C hC => bX9_starts_0  hC (k C hC))
set_option maxRecDepth 100000 in
set_option maxHeartbeats 4000000 in
theorem bX9_starts_2 {x1 : Int32} {C : ZC} {X : Option Value} {Y : ZS} {s : ZS} (hC : Zok ad D ia C d cX9_starts 2 RX9 none) (k : ((62 ≤ x1 → (X = none ∧ Y = s)) ∧ (¬ 62 ≤ x1 → (vp_in x1 186 ∧ (vp_in x1 62 ∧ (∀ s4 : ZS, s4 = stA s 20 1 x1.toNatClampNeg ((s 20).2.2 0 x1.toNatClampNeg) → Z l ad D ia C X Y 2 [(0, .ref (ad 20 0)), (1, .int (x1 + 1))] [] s4)))))) : Z l ad D ia C X Y 2 [(0, .ref (ad 20 0)), (1, .int x1)] [] s := by
  refine Z_iload_n hC dX9_starts_2 rfl rfl ?_
  refine Z_bipush (v := 62) hC dX9_starts_3 rfl ?_
  refine Z_icmp_ge (tgt := 26) hC dX9_starts_5 (by decide) (fun c1 => ?_) (fun c1 => ?_)
  · have k := k.1 c1
    exact Z_vret hC dX9_starts_26 k.1 k.2
  · have k := k.2 c1
    refine Z_aload_n hC dX9_starts_8 rfl rfl ?_
    refine Z_get (o := 20) (c := 9) (k := 1) (v := .ref (ad 20 2)) hC rfl zs_9 lkX9_13 rfl dX9_starts_9 ?_
    refine Z_iload_n hC dX9_starts_12 rfl rfl ?_
    refine Z_aload_n hC dX9_starts_13 rfl rfl ?_
    refine Z_get (o := 20) (c := 9) (k := 0) (v := .ref (ad 20 1)) hC rfl zs_9 lkX9_7 rfl dX9_starts_14 ?_
    refine Z_iload_n hC dX9_starts_17 rfl rfl ?_
    obtain ⟨h2, k⟩ := k
    refine Z_iald (o := 20) (k := 0) hC (zis_of rfl rfl) h2 dX9_starts_18 ?_
    obtain ⟨h3, k⟩ := k
    refine Z_iast2 (o := 20) (k := 1) hC (zis_of rfl rfl) h3 dX9_starts_19 (fun s4 es4 => ?_)
    have k := k s4 es4
    refine Z_iinc (v := x1 + 1) (V2 := [(1, .int (x1 + 1)), (0, .ref (ad 20 0))]) hC dX9_starts_20 rfl rfl (by decide) rfl ?_
    refine Z_goto (tgt := 2) hC dX9_starts_23 (by decide) ?_
    exact Z_pick [1, 0] rfl k
set_option maxRecDepth 100000 in
set_option maxHeartbeats 4000000 in
theorem bX9_settles_0 {C : ZC} {X : Option Value} {Y : ZS} {s : ZS} (hC : Zok ad D ia C d cX9_settles 2 RX9 none) (k : Z l ad D ia C X Y 2 [(0, .ref (ad 20 0)), (1, .int 0)] [] s) : Z l ad D ia C X Y 0 [(0, .ref (ad 20 0))] [] s := by
  refine Z_iconst (v := 0) hC dX9_settles_0 rfl ?_
  refine Z_istore_n (V2 := [(1, .int 0), (0, .ref (ad 20 0))]) hC dX9_settles_1 rfl (by decide) rfl ?_
  exact Z_pick [1, 0] rfl k
theorem eX9_settles {X : Option Value} {Y : ZS} {s : ZS} (k : ∀ C : ZC, Zok ad D ia C d cX9_settles 2 RX9 none → Z l ad D ia C X Y 2 [(0, .ref (ad 20 0)), (1, .int 0)] [] s) : Ev l ad D ia d mX9_settles [.ref (ad 20 0)] s X Y :=
  Ev.start (by decide +kernel) (Nat.le_of_ble_eq_true rfl) (fun C hC => bX9_settles_0  hC (k C hC))
set_option maxRecDepth 100000 in
set_option maxHeartbeats 4000000 in
theorem bX9_settles_2 {x1 : Int32} {C : ZC} {X : Option Value} {Y : ZS} {s : ZS} (hC : Zok ad D ia C d cX9_settles 2 RX9 none) (k : ((62 ≤ x1 → (X = none ∧ Y = s)) ∧ (¬ 62 ≤ x1 → (vp_in x1 62 ∧ (vp_in x1 186 ∧ (∀ s4 : ZS, s4 = stA s 20 0 x1.toNatClampNeg ((s 20).2.2 1 x1.toNatClampNeg) → Z l ad D ia C X Y 2 [(0, .ref (ad 20 0)), (1, .int (x1 + 1))] [] s4)))))) : Z l ad D ia C X Y 2 [(0, .ref (ad 20 0)), (1, .int x1)] [] s := by
  refine Z_iload_n hC dX9_settles_2 rfl rfl ?_
  refine Z_bipush (v := 62) hC dX9_settles_3 rfl ?_
  refine Z_icmp_ge (tgt := 26) hC dX9_settles_5 (by decide) (fun c1 => ?_) (fun c1 => ?_)
  · have k := k.1 c1
    exact Z_vret hC dX9_settles_26 k.1 k.2
  · have k := k.2 c1
    refine Z_aload_n hC dX9_settles_8 rfl rfl ?_
    refine Z_get (o := 20) (c := 9) (k := 0) (v := .ref (ad 20 1)) hC rfl zs_9 lkX9_7 rfl dX9_settles_9 ?_
    refine Z_iload_n hC dX9_settles_12 rfl rfl ?_
    refine Z_aload_n hC dX9_settles_13 rfl rfl ?_
    refine Z_get (o := 20) (c := 9) (k := 1) (v := .ref (ad 20 2)) hC rfl zs_9 lkX9_13 rfl dX9_settles_14 ?_
    refine Z_iload_n hC dX9_settles_17 rfl rfl ?_
    obtain ⟨h2, k⟩ := k
    refine Z_iald (o := 20) (k := 1) hC (zis_of rfl rfl) h2 dX9_settles_18 ?_
    obtain ⟨h3, k⟩ := k
    refine Z_iast2 (o := 20) (k := 0) hC (zis_of rfl rfl) h3 dX9_settles_19 (fun s4 es4 => ?_)
    have k := k s4 es4
    refine Z_iinc (v := x1 + 1) (V2 := [(1, .int (x1 + 1)), (0, .ref (ad 20 0))]) hC dX9_settles_20 rfl rfl (by decide) rfl ?_
    refine Z_goto (tgt := 2) hC dX9_settles_23 (by decide) ?_
    exact Z_pick [1, 0] rfl k
set_option maxRecDepth 100000 in
set_option maxHeartbeats 4000000 in
theorem bX9_of_0 {x1 : Int32} {x2 : Int32} {C : ZC} {X : Option Value} {Y : ZS} {s : ZS} (hC : Zok ad D ia C d cX9_of 3 RX9 (some .int)) (k : (vp_in ((3 * x1) + x2) 62 ∧ (X = some (.int ((s 20).2.2 1 ((3 * x1) + x2).toNatClampNeg)) ∧ Y = s))) : Z l ad D ia C X Y 0 [(0, .ref (ad 20 0)), (1, .int x1), (2, .int x2)] [] s := by
  refine Z_aload_n hC dX9_of_0 rfl rfl ?_
  refine Z_get (o := 20) (c := 9) (k := 1) (v := .ref (ad 20 2)) hC rfl zs_9 lkX9_13 rfl dX9_of_1 ?_
  refine Z_iconst (v := 3) hC dX9_of_4 rfl ?_
  refine Z_iload_n hC dX9_of_5 rfl rfl ?_
  refine Z_imul hC dX9_of_6 ?_
  refine Z_iload_n hC dX9_of_7 rfl rfl ?_
  refine Z_iadd hC dX9_of_8 ?_
  obtain ⟨h1, k⟩ := k
  refine Z_iald (o := 20) (k := 1) hC (zis_of rfl rfl) h1 dX9_of_9 ?_
  exact Z_iret hC dX9_of_10 k.1 k.2
theorem eX9_of {x1 : Int32} {x2 : Int32} {X : Option Value} {Y : ZS} {s : ZS} (k : (vp_in ((3 * x1) + x2) 62 ∧ (X = some (.int ((s 20).2.2 1 ((3 * x1) + x2).toNatClampNeg)) ∧ Y = s))) : Ev l ad D ia d mX9_of [.ref (ad 20 0), .int x1, .int x2] s X Y :=
  Ev.start (by decide +kernel) (Nat.le_of_ble_eq_true rfl) (fun C hC => bX9_of_0  hC k)
set_option maxRecDepth 100000 in
set_option maxHeartbeats 4000000 in
theorem bX9_ofReader_0 {x1 : Int32} {x2 : Int32} {C : ZC} {X : Option Value} {Y : ZS} {s : ZS} (hC : Zok ad D ia C d cX9_ofReader 3 RX9 (some .int)) (k : (vp_in ((24 + (4 * x1)) + x2) 62 ∧ (X = some (.int ((s 20).2.2 1 ((24 + (4 * x1)) + x2).toNatClampNeg)) ∧ Y = s))) : Z l ad D ia C X Y 0 [(0, .ref (ad 20 0)), (1, .int x1), (2, .int x2)] [] s := by
  refine Z_aload_n hC dX9_ofReader_0 rfl rfl ?_
  refine Z_get (o := 20) (c := 9) (k := 1) (v := .ref (ad 20 2)) hC rfl zs_9 lkX9_13 rfl dX9_ofReader_1 ?_
  refine Z_bipush (v := 24) hC dX9_ofReader_4 rfl ?_
  refine Z_iconst (v := 4) hC dX9_ofReader_6 rfl ?_
  refine Z_iload_n hC dX9_ofReader_7 rfl rfl ?_
  refine Z_imul hC dX9_ofReader_8 ?_
  refine Z_iadd hC dX9_ofReader_9 ?_
  refine Z_iload_n hC dX9_ofReader_10 rfl rfl ?_
  refine Z_iadd hC dX9_ofReader_11 ?_
  obtain ⟨h1, k⟩ := k
  refine Z_iald (o := 20) (k := 1) hC (zis_of rfl rfl) h1 dX9_ofReader_12 ?_
  exact Z_iret hC dX9_ofReader_13 k.1 k.2
theorem eX9_ofReader {x1 : Int32} {x2 : Int32} {X : Option Value} {Y : ZS} {s : ZS} (k : (vp_in ((24 + (4 * x1)) + x2) 62 ∧ (X = some (.int ((s 20).2.2 1 ((24 + (4 * x1)) + x2).toNatClampNeg)) ∧ Y = s))) : Ev l ad D ia d mX9_ofReader [.ref (ad 20 0), .int x1, .int x2] s X Y :=
  Ev.start (by decide +kernel) (Nat.le_of_ble_eq_true rfl) (fun C hC => bX9_ofReader_0  hC k)
set_option maxRecDepth 100000 in
set_option maxHeartbeats 4000000 in
theorem bX9_becomesOf_0 {x1 : Int32} {x2 : Int32} {x3 : Int32} {C : ZC} {X : Option Value} {Y : ZS} {s : ZS} (hC : Zok ad D ia C d cX9_becomesOf 4 RX9 none) (k : (vp_in ((24 + (4 * x1)) + x2) 62 ∧ (∀ s2 : ZS, s2 = stA s 20 1 ((24 + (4 * x1)) + x2).toNatClampNeg x3 → (X = none ∧ Y = s2)))) : Z l ad D ia C X Y 0 [(0, .ref (ad 20 0)), (1, .int x1), (2, .int x2), (3, .int x3)] [] s := by
  refine Z_aload_n hC dX9_becomesOf_0 rfl rfl ?_
  refine Z_get (o := 20) (c := 9) (k := 1) (v := .ref (ad 20 2)) hC rfl zs_9 lkX9_13 rfl dX9_becomesOf_1 ?_
  refine Z_bipush (v := 24) hC dX9_becomesOf_4 rfl ?_
  refine Z_iconst (v := 4) hC dX9_becomesOf_6 rfl ?_
  refine Z_iload_n hC dX9_becomesOf_7 rfl rfl ?_
  refine Z_imul hC dX9_becomesOf_8 ?_
  refine Z_iadd hC dX9_becomesOf_9 ?_
  refine Z_iload_n hC dX9_becomesOf_10 rfl rfl ?_
  refine Z_iadd hC dX9_becomesOf_11 ?_
  refine Z_iload_n hC dX9_becomesOf_12 rfl rfl ?_
  obtain ⟨h1, k⟩ := k
  refine Z_iast2 (o := 20) (k := 1) hC (zis_of rfl rfl) h1 dX9_becomesOf_13 (fun s2 es2 => ?_)
  have k := k s2 es2
  exact Z_vret hC dX9_becomesOf_14 k.1 k.2
theorem eX9_becomesOf {x1 : Int32} {x2 : Int32} {x3 : Int32} {X : Option Value} {Y : ZS} {s : ZS} (k : (vp_in ((24 + (4 * x1)) + x2) 62 ∧ (∀ s2 : ZS, s2 = stA s 20 1 ((24 + (4 * x1)) + x2).toNatClampNeg x3 → (X = none ∧ Y = s2)))) : Ev l ad D ia d mX9_becomesOf [.ref (ad 20 0), .int x1, .int x2, .int x3] s X Y :=
  Ev.start (by decide +kernel) (Nat.le_of_ble_eq_true rfl) (fun C hC => bX9_becomesOf_0  hC k)
set_option maxRecDepth 100000 in
set_option maxHeartbeats 4000000 in
theorem bX9_had_0 {x1 : Int32} {x2 : Int32} {C : ZC} {X : Option Value} {Y : ZS} {s : ZS} (hC : Zok ad D ia C (d + 1) cX9_had 3 RX9 (some .boolean)) (k : (∃ (r2 : Int32) (s1 : ZS), Ev l ad D ia d mX9_ofReader [.ref (ad 20 0), .int x1, .int 3] s (some (.int r2)) s1 ∧ ((¬ ((r2 >>> (x2 &&& 31)) &&& 1) = 1 → (X = some (.int 0) ∧ Y = s1)) ∧ (((r2 >>> (x2 &&& 31)) &&& 1) = 1 → (X = some (.int 1) ∧ Y = s1))))) : Z l ad D ia C X Y 0 [(0, .ref (ad 20 0)), (1, .int x1), (2, .int x2)] [] s := by
  refine Z_aload_n hC dX9_had_0 rfl rfl ?_
  refine Z_iload_n hC dX9_had_1 rfl rfl ?_
  refine Z_iconst (v := 3) hC dX9_had_2 rfl ?_
  obtain ⟨r2, s1, h3, k⟩ := k
  refine Z_callV (As := [.int x1, .int 3]) (rest := []) hC h3 cvX9_153 ⟨9, rfl, zs_9, _, rfl, rfl⟩ rfl rfl (Nat.le_of_ble_eq_true rfl) dX9_had_3 ?_
  refine Z_iload_n hC dX9_had_6 rfl rfl ?_
  refine Z_ishr hC dX9_had_7 ?_
  refine Z_iconst (v := 1) hC dX9_had_8 rfl ?_
  refine Z_iand hC dX9_had_9 ?_
  refine Z_iconst (v := 1) hC dX9_had_10 rfl ?_
  refine Z_icmp_ne (tgt := 18) hC dX9_had_11 (by decide) (fun c4 => ?_) (fun c4 => ?_)
  · have k := k.1 c4
    refine Z_iconst (v := 0) hC dX9_had_18 rfl ?_
    exact Z_zret hC dX9_had_19 rfl k.1 k.2
  · have k := k.2 c4
    refine Z_iconst (v := 1) hC dX9_had_14 rfl ?_
    refine Z_goto (tgt := 19) hC dX9_had_15 (by decide) ?_
    exact Z_zret hC dX9_had_19 rfl k.1 k.2
theorem eX9_had {x1 : Int32} {x2 : Int32} {X : Option Value} {Y : ZS} {s : ZS} (k : (∃ (r2 : Int32) (s1 : ZS), Ev l ad D ia d mX9_ofReader [.ref (ad 20 0), .int x1, .int 3] s (some (.int r2)) s1 ∧ ((¬ ((r2 >>> (x2 &&& 31)) &&& 1) = 1 → (X = some (.int 0) ∧ Y = s1)) ∧ (((r2 >>> (x2 &&& 31)) &&& 1) = 1 → (X = some (.int 1) ∧ Y = s1))))) : Ev l ad D ia (d + 1) mX9_had [.ref (ad 20 0), .int x1, .int x2] s X Y :=
  Ev.start (by decide +kernel) (Nat.le_of_ble_eq_true rfl) (fun C hC => bX9_had_0  hC k)
set_option maxRecDepth 100000 in
set_option maxHeartbeats 4000000 in
theorem bX9_climb_0 {x0 : Int32} {x1 : Int32} {C : ZC} {X : Option Value} {Y : ZS} {s : ZS} (hC : Zok ad D ia C d cX9_climb 2 RX9 (some .int)) (k : ((x0 = 1 → (X = some (.int (2 * x1)) ∧ Y = s)) ∧ (x0 = 2 → (X = some (.int ((x1 + 1) / 2)) ∧ Y = s)) ∧ (x0 = 3 → (X = some (.int (((2 * x1) / 2) + 1)) ∧ Y = s)) ∧ ((¬ x0 = 1 ∧ ¬ x0 = 2 ∧ ¬ x0 = 3) → (X = some (.int x1) ∧ Y = s)))) : Z l ad D ia C X Y 0 [(0, .int x0), (1, .int x1)] [] s := by
  refine Z_iload_n hC dX9_climb_0 rfl rfl ?_
  by_cases c1 : x0 = 1
  · have c1x : (x0).toInt = 1 := by rw [c1]; rfl
    have k := k.1 c1
    refine Z_tabIn (tgt := 28) hC dX9_climb_1 (by omega) (by omega) (by rw [c1x]; rfl) (by decide) ?_
    refine Z_iconst (v := 2) hC dX9_climb_28 rfl ?_
    refine Z_iload_n hC dX9_climb_29 rfl rfl ?_
    refine Z_imul hC dX9_climb_30 ?_
    exact Z_iret hC dX9_climb_31 k.1 k.2
  by_cases c2 : x0 = 2
  · have c2x : (x0).toInt = 2 := by rw [c2]; rfl
    have k := k.2.1 c2
    refine Z_tabIn (tgt := 32) hC dX9_climb_1 (by omega) (by omega) (by rw [c2x]; rfl) (by decide) ?_
    refine Z_iload_n hC dX9_climb_32 rfl rfl ?_
    refine Z_iconst (v := 1) hC dX9_climb_33 rfl ?_
    refine Z_iadd hC dX9_climb_34 ?_
    refine Z_iconst (v := 2) hC dX9_climb_35 rfl ?_
    refine Z_idiv hC dX9_climb_36 (by decide) ?_
    exact Z_iret hC dX9_climb_37 k.1 k.2
  by_cases c4 : x0 = 3
  · have c4x : (x0).toInt = 3 := by rw [c4]; rfl
    have k := k.2.2.1 c4
    refine Z_tabIn (tgt := 38) hC dX9_climb_1 (by omega) (by omega) (by rw [c4x]; rfl) (by decide) ?_
    refine Z_iconst (v := 2) hC dX9_climb_38 rfl ?_
    refine Z_iload_n hC dX9_climb_39 rfl rfl ?_
    refine Z_imul hC dX9_climb_40 ?_
    refine Z_iconst (v := 2) hC dX9_climb_41 rfl ?_
    refine Z_idiv hC dX9_climb_42 (by decide) ?_
    refine Z_iconst (v := 1) hC dX9_climb_43 rfl ?_
    refine Z_iadd hC dX9_climb_44 ?_
    exact Z_iret hC dX9_climb_45 k.1 k.2
  have k := k.2.2.2 ⟨c1, c2, c4⟩
  have z6 : (x0).toInt < 1 ∨ 3 < (x0).toInt := by
    apply tab_out
    intro z h1 h2
    rcases (show z = 1 ∨ z = 2 ∨ z = 3 by omega) with rfl | rfl | rfl
    · exact fun e => c1 (Int32.toInt_inj.mp (show (x0).toInt = ((1 : Int32)).toInt from e))
    · exact fun e => c2 (Int32.toInt_inj.mp (show (x0).toInt = ((2 : Int32)).toInt from e))
    · exact fun e => c4 (Int32.toInt_inj.mp (show (x0).toInt = ((3 : Int32)).toInt from e))
  refine Z_tabOut (tgt := 46) hC dX9_climb_1 z6 (by decide) ?_
  refine Z_iload_n hC dX9_climb_46 rfl rfl ?_
  exact Z_iret hC dX9_climb_47 k.1 k.2
theorem eX9_climb {x0 : Int32} {x1 : Int32} {X : Option Value} {Y : ZS} {s : ZS} (k : ((x0 = 1 → (X = some (.int (2 * x1)) ∧ Y = s)) ∧ (x0 = 2 → (X = some (.int ((x1 + 1) / 2)) ∧ Y = s)) ∧ (x0 = 3 → (X = some (.int (((2 * x1) / 2) + 1)) ∧ Y = s)) ∧ ((¬ x0 = 1 ∧ ¬ x0 = 2 ∧ ¬ x0 = 3) → (X = some (.int x1) ∧ Y = s)))) : Ev l ad D ia d mX9_climb [.int x0, .int x1] s X Y :=
  Ev.start (by decide +kernel) (Nat.le_of_ble_eq_true rfl) (fun C hC => bX9_climb_0  hC k)
set_option maxRecDepth 100000 in
set_option maxHeartbeats 4000000 in
theorem bX9_dizziness_0 {x0 : Int32} {x1 : Int32} {C : ZC} {X : Option Value} {Y : ZS} {s : ZS} (hC : Zok ad D ia C d cX9_dizziness 3 RX9 (some .int)) (k : ((x1 ≤ 5 → ((x0 = 1 → (X = some (.int x1) ∧ Y = s)) ∧ (x0 = 2 → (X = some (.int (2 * x1)) ∧ Y = s)) ∧ (x0 = 3 → (X = some (.int (x1 / 3)) ∧ Y = s)) ∧ ((¬ x0 = 1 ∧ ¬ x0 = 2 ∧ ¬ x0 = 3) → (X = some (.int x1) ∧ Y = s)))) ∧ (¬ x1 ≤ 5 → ((x0 = 1 → (X = some (.int ((2 * x1) - 5)) ∧ Y = s)) ∧ (x0 = 2 → (X = some (.int (2 * x1)) ∧ Y = s)) ∧ (x0 = 3 → (X = some (.int (((2 * x1) - 5) / 3)) ∧ Y = s)) ∧ ((¬ x0 = 1 ∧ ¬ x0 = 2 ∧ ¬ x0 = 3) → (X = some (.int x1) ∧ Y = s)))))) : Z l ad D ia C X Y 0 [(0, .int x0), (1, .int x1)] [] s := by
  refine Z_iload_n hC dX9_dizziness_0 rfl rfl ?_
  refine Z_iconst (v := 5) hC dX9_dizziness_1 rfl ?_
  refine Z_icmp_le (tgt := 13) hC dX9_dizziness_2 (by decide) (fun c1 => ?_) (fun c1 => ?_)
  · have k := k.1 c1
    refine Z_iload_n hC dX9_dizziness_13 rfl rfl ?_
    refine Z_istore_n (V2 := [(2, .int x1), (0, .int x0), (1, .int x1)]) hC dX9_dizziness_14 rfl (by decide) rfl ?_
    refine Z_iload_n hC dX9_dizziness_15 rfl rfl ?_
    by_cases c2 : x0 = 1
    · have c2x : (x0).toInt = 1 := by rw [c2]; rfl
      have k := k.1 c2
      refine Z_tabIn (tgt := 44) hC dX9_dizziness_16 (by omega) (by omega) (by rw [c2x]; rfl) (by decide) ?_
      refine Z_iload_n hC dX9_dizziness_44 rfl rfl ?_
      exact Z_iret hC dX9_dizziness_45 k.1 k.2
    by_cases c3 : x0 = 2
    · have c3x : (x0).toInt = 2 := by rw [c3]; rfl
      have k := k.2.1 c3
      refine Z_tabIn (tgt := 46) hC dX9_dizziness_16 (by omega) (by omega) (by rw [c3x]; rfl) (by decide) ?_
      refine Z_iconst (v := 2) hC dX9_dizziness_46 rfl ?_
      refine Z_iload_n hC dX9_dizziness_47 rfl rfl ?_
      refine Z_imul hC dX9_dizziness_48 ?_
      exact Z_iret hC dX9_dizziness_49 k.1 k.2
    by_cases c4 : x0 = 3
    · have c4x : (x0).toInt = 3 := by rw [c4]; rfl
      have k := k.2.2.1 c4
      refine Z_tabIn (tgt := 50) hC dX9_dizziness_16 (by omega) (by omega) (by rw [c4x]; rfl) (by decide) ?_
      refine Z_iload_n hC dX9_dizziness_50 rfl rfl ?_
      refine Z_iconst (v := 3) hC dX9_dizziness_51 rfl ?_
      refine Z_idiv hC dX9_dizziness_52 (by decide) ?_
      exact Z_iret hC dX9_dizziness_53 k.1 k.2
    have k := k.2.2.2 ⟨c2, c3, c4⟩
    have z6 : (x0).toInt < 1 ∨ 3 < (x0).toInt := by
      apply tab_out
      intro z h1 h2
      rcases (show z = 1 ∨ z = 2 ∨ z = 3 by omega) with rfl | rfl | rfl
      · exact fun e => c2 (Int32.toInt_inj.mp (show (x0).toInt = ((1 : Int32)).toInt from e))
      · exact fun e => c3 (Int32.toInt_inj.mp (show (x0).toInt = ((2 : Int32)).toInt from e))
      · exact fun e => c4 (Int32.toInt_inj.mp (show (x0).toInt = ((3 : Int32)).toInt from e))
    refine Z_tabOut (tgt := 54) hC dX9_dizziness_16 z6 (by decide) ?_
    refine Z_iload_n hC dX9_dizziness_54 rfl rfl ?_
    exact Z_iret hC dX9_dizziness_55 k.1 k.2
  · have k := k.2 c1
    refine Z_iconst (v := 2) hC dX9_dizziness_5 rfl ?_
    refine Z_iload_n hC dX9_dizziness_6 rfl rfl ?_
    refine Z_imul hC dX9_dizziness_7 ?_
    refine Z_iconst (v := 5) hC dX9_dizziness_8 rfl ?_
    refine Z_isub hC dX9_dizziness_9 ?_
    refine Z_goto (tgt := 14) hC dX9_dizziness_10 (by decide) ?_
    refine Z_istore_n (V2 := [(2, .int ((2 * x1) - 5)), (0, .int x0), (1, .int x1)]) hC dX9_dizziness_14 rfl (by decide) rfl ?_
    refine Z_iload_n hC dX9_dizziness_15 rfl rfl ?_
    by_cases c7 : x0 = 1
    · have c7x : (x0).toInt = 1 := by rw [c7]; rfl
      have k := k.1 c7
      refine Z_tabIn (tgt := 44) hC dX9_dizziness_16 (by omega) (by omega) (by rw [c7x]; rfl) (by decide) ?_
      refine Z_iload_n hC dX9_dizziness_44 rfl rfl ?_
      exact Z_iret hC dX9_dizziness_45 k.1 k.2
    by_cases c8 : x0 = 2
    · have c8x : (x0).toInt = 2 := by rw [c8]; rfl
      have k := k.2.1 c8
      refine Z_tabIn (tgt := 46) hC dX9_dizziness_16 (by omega) (by omega) (by rw [c8x]; rfl) (by decide) ?_
      refine Z_iconst (v := 2) hC dX9_dizziness_46 rfl ?_
      refine Z_iload_n hC dX9_dizziness_47 rfl rfl ?_
      refine Z_imul hC dX9_dizziness_48 ?_
      exact Z_iret hC dX9_dizziness_49 k.1 k.2
    by_cases c9 : x0 = 3
    · have c9x : (x0).toInt = 3 := by rw [c9]; rfl
      have k := k.2.2.1 c9
      refine Z_tabIn (tgt := 50) hC dX9_dizziness_16 (by omega) (by omega) (by rw [c9x]; rfl) (by decide) ?_
      refine Z_iload_n hC dX9_dizziness_50 rfl rfl ?_
      refine Z_iconst (v := 3) hC dX9_dizziness_51 rfl ?_
      refine Z_idiv hC dX9_dizziness_52 (by decide) ?_
      exact Z_iret hC dX9_dizziness_53 k.1 k.2
    have k := k.2.2.2 ⟨c7, c8, c9⟩
    have z11 : (x0).toInt < 1 ∨ 3 < (x0).toInt := by
      apply tab_out
      intro z h1 h2
      rcases (show z = 1 ∨ z = 2 ∨ z = 3 by omega) with rfl | rfl | rfl
      · exact fun e => c7 (Int32.toInt_inj.mp (show (x0).toInt = ((1 : Int32)).toInt from e))
      · exact fun e => c8 (Int32.toInt_inj.mp (show (x0).toInt = ((2 : Int32)).toInt from e))
      · exact fun e => c9 (Int32.toInt_inj.mp (show (x0).toInt = ((3 : Int32)).toInt from e))
    refine Z_tabOut (tgt := 54) hC dX9_dizziness_16 z11 (by decide) ?_
    refine Z_iload_n hC dX9_dizziness_54 rfl rfl ?_
    exact Z_iret hC dX9_dizziness_55 k.1 k.2
theorem eX9_dizziness {x0 : Int32} {x1 : Int32} {X : Option Value} {Y : ZS} {s : ZS} (k : ((x1 ≤ 5 → ((x0 = 1 → (X = some (.int x1) ∧ Y = s)) ∧ (x0 = 2 → (X = some (.int (2 * x1)) ∧ Y = s)) ∧ (x0 = 3 → (X = some (.int (x1 / 3)) ∧ Y = s)) ∧ ((¬ x0 = 1 ∧ ¬ x0 = 2 ∧ ¬ x0 = 3) → (X = some (.int x1) ∧ Y = s)))) ∧ (¬ x1 ≤ 5 → ((x0 = 1 → (X = some (.int ((2 * x1) - 5)) ∧ Y = s)) ∧ (x0 = 2 → (X = some (.int (2 * x1)) ∧ Y = s)) ∧ (x0 = 3 → (X = some (.int (((2 * x1) - 5) / 3)) ∧ Y = s)) ∧ ((¬ x0 = 1 ∧ ¬ x0 = 2 ∧ ¬ x0 = 3) → (X = some (.int x1) ∧ Y = s)))))) : Ev l ad D ia d mX9_dizziness [.int x0, .int x1] s X Y :=
  Ev.start (by decide +kernel) (Nat.le_of_ble_eq_true rfl) (fun C hC => bX9_dizziness_0  hC k)
set_option maxRecDepth 100000 in
set_option maxHeartbeats 4000000 in
theorem bX9_minutesOf_0 {x1 : Int32} {x2 : Int32} {C : ZC} {X : Option Value} {Y : ZS} {s : ZS} (hC : Zok ad D ia C (d + 1) cX9_minutesOf 4 RX9 (some .int)) (k : (∃ (r2 : Int32) (s1 : ZS), Ev l ad D ia d mX9_of [.ref (ad 20 0), .int x2, .int 0] s (some (.int r2)) s1 ∧ (vp_in 40 62 ∧ ((0 ≤ (r2 - ((s1 20).2.2 1 (40 : Int32).toNatClampNeg)) → (∃ (r7 : Int32) (s6 : ZS), Ev l ad D ia d mX9_ofReader [.ref (ad 20 0), .int x1, .int 0] s1 (some (.int r7)) s6 ∧ (∃ (r10 : Int32) (s9 : ZS), Ev l ad D ia d mX9_of [.ref (ad 20 0), .int x2, .int 1] s6 (some (.int r10)) s9 ∧ (∃ (r13 : Int32) (s12 : ZS), Ev l ad D ia d mX9_climb [.int r7, .int r10] s9 (some (.int r13)) s12 ∧ (X = some (.int ((r2 - ((s1 20).2.2 1 (40 : Int32).toNatClampNeg)) + (2 * r13))) ∧ Y = s12))))) ∧ (¬ 0 ≤ (r2 - ((s1 20).2.2 1 (40 : Int32).toNatClampNeg)) → (∃ (r16 : Int32) (s15 : ZS), Ev l ad D ia d mX9_ofReader [.ref (ad 20 0), .int x1, .int 0] s1 (some (.int r16)) s15 ∧ (∃ (r19 : Int32) (s18 : ZS), Ev l ad D ia d mX9_of [.ref (ad 20 0), .int x2, .int 1] s15 (some (.int r19)) s18 ∧ (∃ (r22 : Int32) (s21 : ZS), Ev l ad D ia d mX9_climb [.int r16, .int r19] s18 (some (.int r22)) s21 ∧ (X = some (.int ((-(r2 - ((s1 20).2.2 1 (40 : Int32).toNatClampNeg))) + (2 * r22))) ∧ Y = s21))))))))) : Z l ad D ia C X Y 0 [(0, .ref (ad 20 0)), (1, .int x1), (2, .int x2)] [] s := by
  refine Z_aload_n hC dX9_minutesOf_0 rfl rfl ?_
  refine Z_iload_n hC dX9_minutesOf_1 rfl rfl ?_
  refine Z_iconst (v := 0) hC dX9_minutesOf_2 rfl ?_
  obtain ⟨r2, s1, h3, k⟩ := k
  refine Z_callV (As := [.int x2, .int 0]) (rest := []) hC h3 cvX9_156 ⟨9, rfl, zs_9, _, rfl, rfl⟩ rfl rfl (Nat.le_of_ble_eq_true rfl) dX9_minutesOf_3 ?_
  refine Z_aload_n hC dX9_minutesOf_6 rfl rfl ?_
  refine Z_get (o := 20) (c := 9) (k := 1) (v := .ref (ad 20 2)) hC rfl zs_9 lkX9_13 rfl dX9_minutesOf_7 ?_
  refine Z_bipush (v := 40) hC dX9_minutesOf_10 rfl ?_
  obtain ⟨h4, k⟩ := k
  refine Z_iald (o := 20) (k := 1) hC (zis_of rfl rfl) h4 dX9_minutesOf_12 ?_
  refine Z_isub hC dX9_minutesOf_13 ?_
  refine Z_istore_n (V2 := [(3, .int (r2 - ((s1 20).2.2 1 (40 : Int32).toNatClampNeg))), (0, .ref (ad 20 0)), (1, .int x1), (2, .int x2)]) hC dX9_minutesOf_14 rfl (by decide) rfl ?_
  refine Z_iload_n hC dX9_minutesOf_15 rfl rfl ?_
  refine Z_if_ge (tgt := 24) hC dX9_minutesOf_16 (by decide) (fun c5 => ?_) (fun c5 => ?_)
  · have k := k.1 c5
    refine Z_iload_n hC dX9_minutesOf_24 rfl rfl ?_
    refine Z_iconst (v := 2) hC dX9_minutesOf_25 rfl ?_
    refine Z_aload_n hC dX9_minutesOf_26 rfl rfl ?_
    refine Z_iload_n hC dX9_minutesOf_27 rfl rfl ?_
    refine Z_iconst (v := 0) hC dX9_minutesOf_28 rfl ?_
    obtain ⟨r7, s6, h8, k⟩ := k
    refine Z_callV (As := [.int x1, .int 0]) (rest := [.int 2, .int (r2 - ((s1 20).2.2 1 (40 : Int32).toNatClampNeg))]) hC h8 cvX9_153 ⟨9, rfl, zs_9, _, rfl, rfl⟩ rfl rfl (Nat.le_of_ble_eq_true rfl) dX9_minutesOf_29 ?_
    refine Z_aload_n hC dX9_minutesOf_32 rfl rfl ?_
    refine Z_iload_n hC dX9_minutesOf_33 rfl rfl ?_
    refine Z_iconst (v := 1) hC dX9_minutesOf_34 rfl ?_
    obtain ⟨r10, s9, h11, k⟩ := k
    refine Z_callV (As := [.int x2, .int 1]) (rest := [.int r7, .int 2, .int (r2 - ((s1 20).2.2 1 (40 : Int32).toNatClampNeg))]) hC h11 cvX9_156 ⟨9, rfl, zs_9, _, rfl, rfl⟩ rfl rfl (Nat.le_of_ble_eq_true rfl) dX9_minutesOf_35 ?_
    obtain ⟨r13, s12, h14, k⟩ := k
    refine Z_callS (As := [.int r7, .int r10]) (rest := [.int 2, .int (r2 - ((s1 20).2.2 1 (40 : Int32).toNatClampNeg))]) hC h14 csX9_159 rfl rfl (Nat.le_of_ble_eq_true rfl) dX9_minutesOf_38 ?_
    refine Z_imul hC dX9_minutesOf_41 ?_
    refine Z_iadd hC dX9_minutesOf_42 ?_
    exact Z_iret hC dX9_minutesOf_43 k.1 k.2
  · have k := k.2 c5
    refine Z_iload_n hC dX9_minutesOf_19 rfl rfl ?_
    refine Z_ineg hC dX9_minutesOf_20 ?_
    refine Z_goto (tgt := 25) hC dX9_minutesOf_21 (by decide) ?_
    refine Z_iconst (v := 2) hC dX9_minutesOf_25 rfl ?_
    refine Z_aload_n hC dX9_minutesOf_26 rfl rfl ?_
    refine Z_iload_n hC dX9_minutesOf_27 rfl rfl ?_
    refine Z_iconst (v := 0) hC dX9_minutesOf_28 rfl ?_
    obtain ⟨r16, s15, h17, k⟩ := k
    refine Z_callV (As := [.int x1, .int 0]) (rest := [.int 2, .int (-(r2 - ((s1 20).2.2 1 (40 : Int32).toNatClampNeg)))]) hC h17 cvX9_153 ⟨9, rfl, zs_9, _, rfl, rfl⟩ rfl rfl (Nat.le_of_ble_eq_true rfl) dX9_minutesOf_29 ?_
    refine Z_aload_n hC dX9_minutesOf_32 rfl rfl ?_
    refine Z_iload_n hC dX9_minutesOf_33 rfl rfl ?_
    refine Z_iconst (v := 1) hC dX9_minutesOf_34 rfl ?_
    obtain ⟨r19, s18, h20, k⟩ := k
    refine Z_callV (As := [.int x2, .int 1]) (rest := [.int r16, .int 2, .int (-(r2 - ((s1 20).2.2 1 (40 : Int32).toNatClampNeg)))]) hC h20 cvX9_156 ⟨9, rfl, zs_9, _, rfl, rfl⟩ rfl rfl (Nat.le_of_ble_eq_true rfl) dX9_minutesOf_35 ?_
    obtain ⟨r22, s21, h23, k⟩ := k
    refine Z_callS (As := [.int r16, .int r19]) (rest := [.int 2, .int (-(r2 - ((s1 20).2.2 1 (40 : Int32).toNatClampNeg)))]) hC h23 csX9_159 rfl rfl (Nat.le_of_ble_eq_true rfl) dX9_minutesOf_38 ?_
    refine Z_imul hC dX9_minutesOf_41 ?_
    refine Z_iadd hC dX9_minutesOf_42 ?_
    exact Z_iret hC dX9_minutesOf_43 k.1 k.2
theorem eX9_minutesOf {x1 : Int32} {x2 : Int32} {X : Option Value} {Y : ZS} {s : ZS} (k : (∃ (r2 : Int32) (s1 : ZS), Ev l ad D ia d mX9_of [.ref (ad 20 0), .int x2, .int 0] s (some (.int r2)) s1 ∧ (vp_in 40 62 ∧ ((0 ≤ (r2 - ((s1 20).2.2 1 (40 : Int32).toNatClampNeg)) → (∃ (r7 : Int32) (s6 : ZS), Ev l ad D ia d mX9_ofReader [.ref (ad 20 0), .int x1, .int 0] s1 (some (.int r7)) s6 ∧ (∃ (r10 : Int32) (s9 : ZS), Ev l ad D ia d mX9_of [.ref (ad 20 0), .int x2, .int 1] s6 (some (.int r10)) s9 ∧ (∃ (r13 : Int32) (s12 : ZS), Ev l ad D ia d mX9_climb [.int r7, .int r10] s9 (some (.int r13)) s12 ∧ (X = some (.int ((r2 - ((s1 20).2.2 1 (40 : Int32).toNatClampNeg)) + (2 * r13))) ∧ Y = s12))))) ∧ (¬ 0 ≤ (r2 - ((s1 20).2.2 1 (40 : Int32).toNatClampNeg)) → (∃ (r16 : Int32) (s15 : ZS), Ev l ad D ia d mX9_ofReader [.ref (ad 20 0), .int x1, .int 0] s1 (some (.int r16)) s15 ∧ (∃ (r19 : Int32) (s18 : ZS), Ev l ad D ia d mX9_of [.ref (ad 20 0), .int x2, .int 1] s15 (some (.int r19)) s18 ∧ (∃ (r22 : Int32) (s21 : ZS), Ev l ad D ia d mX9_climb [.int r16, .int r19] s18 (some (.int r22)) s21 ∧ (X = some (.int ((-(r2 - ((s1 20).2.2 1 (40 : Int32).toNatClampNeg))) + (2 * r22))) ∧ Y = s21))))))))) : Ev l ad D ia (d + 1) mX9_minutesOf [.ref (ad 20 0), .int x1, .int x2] s X Y :=
  Ev.start (by decide +kernel) (Nat.le_of_ble_eq_true rfl) (fun C hC => bX9_minutesOf_0  hC k)
set_option maxRecDepth 100000 in
set_option maxHeartbeats 4000000 in
theorem bX9_startsCounting_0 {C : ZC} {X : Option Value} {Y : ZS} {s : ZS} (hC : Zok ad D ia C d cX9_startsCounting 1 RX9 none) (k : (∀ s1 : ZS, s1 = stI s 20 18 0 → (∀ s2 : ZS, s2 = stI s1 20 19 0 → (∀ s3 : ZS, s3 = stI s2 20 20 0 → (X = none ∧ Y = s3))))) : Z l ad D ia C X Y 0 [(0, .ref (ad 20 0))] [] s := by
  refine Z_aload_n hC dX9_startsCounting_0 rfl rfl ?_
  refine Z_iconst (v := 0) hC dX9_startsCounting_1 rfl ?_
  refine Z_putI (o := 20) (k := 18) hC rfl zs_9 pkX9_162 rfl rfl (hsX9_18 _ _ _) dX9_startsCounting_2 (fun s1 es1 => ?_)
  have k := k s1 es1
  refine Z_aload_n hC dX9_startsCounting_5 rfl rfl ?_
  refine Z_iconst (v := 0) hC dX9_startsCounting_6 rfl ?_
  refine Z_putI (o := 20) (k := 19) hC rfl zs_9 pkX9_165 rfl rfl (hsX9_19 _ _ _) dX9_startsCounting_7 (fun s2 es2 => ?_)
  have k := k s2 es2
  refine Z_aload_n hC dX9_startsCounting_10 rfl rfl ?_
  refine Z_iconst (v := 0) hC dX9_startsCounting_11 rfl ?_
  refine Z_putI (o := 20) (k := 20) hC rfl zs_9 pkX9_168 rfl rfl (hsX9_20 _ _ _) dX9_startsCounting_12 (fun s3 es3 => ?_)
  have k := k s3 es3
  exact Z_vret hC dX9_startsCounting_15 k.1 k.2
theorem eX9_startsCounting {X : Option Value} {Y : ZS} {s : ZS} (k : (∀ s1 : ZS, s1 = stI s 20 18 0 → (∀ s2 : ZS, s2 = stI s1 20 19 0 → (∀ s3 : ZS, s3 = stI s2 20 20 0 → (X = none ∧ Y = s3))))) : Ev l ad D ia d mX9_startsCounting [.ref (ad 20 0)] s X Y :=
  Ev.start (by decide +kernel) (Nat.le_of_ble_eq_true rfl) (fun C hC => bX9_startsCounting_0  hC k)
set_option maxRecDepth 100000 in
set_option maxHeartbeats 4000000 in
theorem bX9_fetches_0 {x1 : Int32} {x2 : Int32} {C : ZC} {X : Option Value} {Y : ZS} {s : ZS} (hC : Zok ad D ia C (d + 1) cX9_fetches 4 RX9 none) (k : (∃ (r2 : Int32) (s1 : ZS), Ev l ad D ia d mX9_minutesOf [.ref (ad 20 0), .int x1, .int x2] s (some (.int r2)) s1 ∧ (∃ (r5 : Int32) (s4 : ZS), Ev l ad D ia d mX9_of [.ref (ad 20 0), .int x2, .int 0] s1 (some (.int r5)) s4 ∧ (vp_in 40 62 ∧ (∀ s8 : ZS, s8 = stA s4 20 1 (40 : Int32).toNatClampNeg r5 → (vp_in 41 62 ∧ (vp_in 41 62 ∧ (∀ s11 : ZS, s11 = stA s8 20 1 (41 : Int32).toNatClampNeg (((s8 20).2.2 1 (41 : Int32).toNatClampNeg) + r2) → (∃ (r13 : Int32) (s12 : ZS), Ev l ad D ia d mX9_ofReader [.ref (ad 20 0), .int x1, .int 3] s11 (some (.int r13)) s12 ∧ (∃ s15 : ZS, Ev l ad D ia d mX9_becomesOf [.ref (ad 20 0), .int x1, .int 3, .int (r13 ||| (1 <<< (x2 &&& 31)))] s12 none s15 ∧ (∀ s17 : ZS, s17 = stI s15 20 19 (((s15 20).1 19) + r2) → (∀ s18 : ZS, s18 = stI s17 20 18 (((s17 20).1 18) + 1) → (X = none ∧ Y = s18))))))))))))) : Z l ad D ia C X Y 0 [(0, .ref (ad 20 0)), (1, .int x1), (2, .int x2)] [] s := by
  refine Z_aload_n hC dX9_fetches_0 rfl rfl ?_
  refine Z_iload_n hC dX9_fetches_1 rfl rfl ?_
  refine Z_iload_n hC dX9_fetches_2 rfl rfl ?_
  obtain ⟨r2, s1, h3, k⟩ := k
  refine Z_callV (As := [.int x1, .int x2]) (rest := []) hC h3 cvX9_171 ⟨9, rfl, zs_9, _, rfl, rfl⟩ rfl rfl (Nat.le_of_ble_eq_true rfl) dX9_fetches_3 ?_
  refine Z_istore_n (V2 := [(3, .int r2), (0, .ref (ad 20 0)), (1, .int x1), (2, .int x2)]) hC dX9_fetches_6 rfl (by decide) rfl ?_
  refine Z_aload_n hC dX9_fetches_7 rfl rfl ?_
  refine Z_get (o := 20) (c := 9) (k := 1) (v := .ref (ad 20 2)) hC rfl zs_9 lkX9_13 rfl dX9_fetches_8 ?_
  refine Z_bipush (v := 40) hC dX9_fetches_11 rfl ?_
  refine Z_aload_n hC dX9_fetches_13 rfl rfl ?_
  refine Z_iload_n hC dX9_fetches_14 rfl rfl ?_
  refine Z_iconst (v := 0) hC dX9_fetches_15 rfl ?_
  obtain ⟨r5, s4, h6, k⟩ := k
  refine Z_callV (As := [.int x2, .int 0]) (rest := [.int 40, .ref (ad 20 2)]) hC h6 cvX9_156 ⟨9, rfl, zs_9, _, rfl, rfl⟩ rfl rfl (Nat.le_of_ble_eq_true rfl) dX9_fetches_16 ?_
  obtain ⟨h7, k⟩ := k
  refine Z_iast2 (o := 20) (k := 1) hC (zis_of rfl rfl) h7 dX9_fetches_19 (fun s8 es8 => ?_)
  have k := k s8 es8
  refine Z_aload_n hC dX9_fetches_20 rfl rfl ?_
  refine Z_get (o := 20) (c := 9) (k := 1) (v := .ref (ad 20 2)) hC rfl zs_9 lkX9_13 rfl dX9_fetches_21 ?_
  refine Z_bipush (v := 41) hC dX9_fetches_24 rfl ?_
  refine Z_dup2 hC dX9_fetches_26 rfl rfl ?_
  obtain ⟨h9, k⟩ := k
  refine Z_iald (o := 20) (k := 1) hC (zis_of rfl rfl) h9 dX9_fetches_27 ?_
  refine Z_iload_n hC dX9_fetches_28 rfl rfl ?_
  refine Z_iadd hC dX9_fetches_29 ?_
  obtain ⟨h10, k⟩ := k
  refine Z_iast2 (o := 20) (k := 1) hC (zis_of rfl rfl) h10 dX9_fetches_30 (fun s11 es11 => ?_)
  have k := k s11 es11
  refine Z_aload_n hC dX9_fetches_31 rfl rfl ?_
  refine Z_iload_n hC dX9_fetches_32 rfl rfl ?_
  refine Z_iconst (v := 3) hC dX9_fetches_33 rfl ?_
  refine Z_aload_n hC dX9_fetches_34 rfl rfl ?_
  refine Z_iload_n hC dX9_fetches_35 rfl rfl ?_
  refine Z_iconst (v := 3) hC dX9_fetches_36 rfl ?_
  obtain ⟨r13, s12, h14, k⟩ := k
  refine Z_callV (As := [.int x1, .int 3]) (rest := [.int 3, .int x1, .ref (ad 20 0)]) hC h14 cvX9_153 ⟨9, rfl, zs_9, _, rfl, rfl⟩ rfl rfl (Nat.le_of_ble_eq_true rfl) dX9_fetches_37 ?_
  refine Z_iconst (v := 1) hC dX9_fetches_40 rfl ?_
  refine Z_iload_n hC dX9_fetches_41 rfl rfl ?_
  refine Z_ishl hC dX9_fetches_42 ?_
  refine Z_ior hC dX9_fetches_43 ?_
  obtain ⟨s15, h16, k⟩ := k
  refine Z_callV (As := [.int x1, .int 3, .int (r13 ||| (1 <<< (x2 &&& 31)))]) (rest := []) hC h16 cvX9_174 ⟨9, rfl, zs_9, _, rfl, rfl⟩ rfl rfl (Nat.le_of_ble_eq_true rfl) dX9_fetches_44 ?_
  refine Z_aload_n hC dX9_fetches_47 rfl rfl ?_
  refine Z_dup hC dX9_fetches_48 rfl ?_
  refine Z_get (o := 20) (c := 9) (k := 19) (v := .int ((s15 20).1 19)) hC rfl zs_9 lkX9_165 rfl dX9_fetches_49 ?_
  refine Z_iload_n hC dX9_fetches_52 rfl rfl ?_
  refine Z_iadd hC dX9_fetches_53 ?_
  refine Z_putI (o := 20) (k := 19) hC rfl zs_9 pkX9_165 rfl rfl (hsX9_19 _ _ _) dX9_fetches_54 (fun s17 es17 => ?_)
  have k := k s17 es17
  refine Z_aload_n hC dX9_fetches_57 rfl rfl ?_
  refine Z_dup hC dX9_fetches_58 rfl ?_
  refine Z_get (o := 20) (c := 9) (k := 18) (v := .int ((s17 20).1 18)) hC rfl zs_9 lkX9_162 rfl dX9_fetches_59 ?_
  refine Z_iconst (v := 1) hC dX9_fetches_62 rfl ?_
  refine Z_iadd hC dX9_fetches_63 ?_
  refine Z_putI (o := 20) (k := 18) hC rfl zs_9 pkX9_162 rfl rfl (hsX9_18 _ _ _) dX9_fetches_64 (fun s18 es18 => ?_)
  have k := k s18 es18
  exact Z_vret hC dX9_fetches_67 k.1 k.2
theorem eX9_fetches {x1 : Int32} {x2 : Int32} {X : Option Value} {Y : ZS} {s : ZS} (k : (∃ (r2 : Int32) (s1 : ZS), Ev l ad D ia d mX9_minutesOf [.ref (ad 20 0), .int x1, .int x2] s (some (.int r2)) s1 ∧ (∃ (r5 : Int32) (s4 : ZS), Ev l ad D ia d mX9_of [.ref (ad 20 0), .int x2, .int 0] s1 (some (.int r5)) s4 ∧ (vp_in 40 62 ∧ (∀ s8 : ZS, s8 = stA s4 20 1 (40 : Int32).toNatClampNeg r5 → (vp_in 41 62 ∧ (vp_in 41 62 ∧ (∀ s11 : ZS, s11 = stA s8 20 1 (41 : Int32).toNatClampNeg (((s8 20).2.2 1 (41 : Int32).toNatClampNeg) + r2) → (∃ (r13 : Int32) (s12 : ZS), Ev l ad D ia d mX9_ofReader [.ref (ad 20 0), .int x1, .int 3] s11 (some (.int r13)) s12 ∧ (∃ s15 : ZS, Ev l ad D ia d mX9_becomesOf [.ref (ad 20 0), .int x1, .int 3, .int (r13 ||| (1 <<< (x2 &&& 31)))] s12 none s15 ∧ (∀ s17 : ZS, s17 = stI s15 20 19 (((s15 20).1 19) + r2) → (∀ s18 : ZS, s18 = stI s17 20 18 (((s17 20).1 18) + 1) → (X = none ∧ Y = s18))))))))))))) : Ev l ad D ia (d + 1) mX9_fetches [.ref (ad 20 0), .int x1, .int x2] s X Y :=
  Ev.start (by decide +kernel) (Nat.le_of_ble_eq_true rfl) (fun C hC => bX9_fetches_0  hC k)
set_option maxRecDepth 100000 in
set_option maxHeartbeats 4000000 in
theorem bX9_readerGoes_0 {x1 : Int32} {C : ZC} {X : Option Value} {Y : ZS} {s : ZS} (hC : Zok ad D ia C (d + 1) cX9_readerGoes 7 RX9 none) (k : (∀ s1 : ZS, s1 = stI s 20 21 ((-4)) → Z l ad D ia C X Y 13 [(0, .ref (ad 20 0)), (1, .int x1), (2, .int 0), (3, .int 0), (4, .int 0)] [] s1)) : Z l ad D ia C X Y 0 [(0, .ref (ad 20 0)), (1, .int x1)] [] s := by
  refine Z_iconst (v := 0) hC dX9_readerGoes_0 rfl ?_
  refine Z_istore_n (V2 := [(2, .int 0), (0, .ref (ad 20 0)), (1, .int x1)]) hC dX9_readerGoes_1 rfl (by decide) rfl ?_
  refine Z_iconst (v := 0) hC dX9_readerGoes_2 rfl ?_
  refine Z_istore_n (V2 := [(3, .int 0), (2, .int 0), (0, .ref (ad 20 0)), (1, .int x1)]) hC dX9_readerGoes_3 rfl (by decide) rfl ?_
  refine Z_aload_n hC dX9_readerGoes_4 rfl rfl ?_
  refine Z_bipush (v := (-4)) hC dX9_readerGoes_5 rfl ?_
  refine Z_putI (o := 20) (k := 21) hC rfl zs_9 pkX9_178 rfl rfl (hsX9_21 _ _ _) dX9_readerGoes_7 (fun s1 es1 => ?_)
  have k := k s1 es1
  refine Z_iconst (v := 0) hC dX9_readerGoes_10 rfl ?_
  refine Z_istore (V2 := [(4, .int 0), (3, .int 0), (2, .int 0), (0, .ref (ad 20 0)), (1, .int x1)]) hC dX9_readerGoes_11 (by decide) rfl ?_
  exact Z_pick [3, 4, 2, 1, 0] rfl k
theorem eX9_readerGoes {x1 : Int32} {X : Option Value} {Y : ZS} {s : ZS} (k : ∀ C : ZC, Zok ad D ia C (d + 1) cX9_readerGoes 7 RX9 none → (∀ s1 : ZS, s1 = stI s 20 21 ((-4)) → Z l ad D ia C X Y 13 [(0, .ref (ad 20 0)), (1, .int x1), (2, .int 0), (3, .int 0), (4, .int 0)] [] s1)) : Ev l ad D ia (d + 1) mX9_readerGoes [.ref (ad 20 0), .int x1] s X Y :=
  Ev.start (by decide +kernel) (Nat.le_of_ble_eq_true rfl) (fun C hC => bX9_readerGoes_0  hC (k C hC))
set_option maxRecDepth 100000 in
set_option maxHeartbeats 4000000 in
theorem bX9_readerGoes_13 {x1 : Int32} {x2 : Int32} {x3 : Int32} {x4 : Int32} {C : ZC} {X : Option Value} {Y : ZS} {s : ZS} (hC : Zok ad D ia C (d + 1) cX9_readerGoes 7 RX9 none) (k : ((8 < x4 → (X = none ∧ Y = s)) ∧ (¬ 8 < x4 → ((¬ x3 = 0 → (X = none ∧ Y = s)) ∧ (x3 = 0 → (∃ (r4 : Int32) (s3 : ZS), Ev l ad D ia d mX9_ofReader [.ref (ad 20 0), .int x1, .int 1] s (some (.int r4)) s3 ∧ ((¬ r4 = ((-4)) → (∃ (r8 : Int32) (s7 : ZS), Ev l ad D ia d mX9_had [.ref (ad 20 0), .int x1, .int r4] s3 (some (.int r8)) s7 ∧ ((r8 = 0 → (∃ (r12 : Int32) (s11 : ZS), Ev l ad D ia d mX9_ofReader [.ref (ad 20 0), .int x1, .int 0] s7 (some (.int r12)) s11 ∧ (∃ (r15 : Int32) (s14 : ZS), Ev l ad D ia d mX9_of [.ref (ad 20 0), .int r4, .int 1] s11 (some (.int r15)) s14 ∧ (∃ (r18 : Int32) (s17 : ZS), Ev l ad D ia d mX9_dizziness [.int r12, .int r15] s14 (some (.int r18)) s17 ∧ (∃ (r21 : Int32) (s20 : ZS), Ev l ad D ia d mX9_ofReader [.ref (ad 20 0), .int x1, .int 2] s17 (some (.int r21)) s20 ∧ (((x2 + r18) ≤ r21 → (∃ s24 : ZS, Ev l ad D ia d mX9_fetches [.ref (ad 20 0), .int x1, .int r4] s20 none s24 ∧ (∃ (r27 : Int32) (s26 : ZS), Ev l ad D ia d mX9_of [.ref (ad 20 0), .int r4, .int 2] s24 (some (.int r27)) s26 ∧ (∃ s29 : ZS, Ev l ad D ia d mX9_becomesOf [.ref (ad 20 0), .int x1, .int 1, .int r27] s26 none s29 ∧ Z l ad D ia C X Y 13 [(0, .ref (ad 20 0)), (1, .int x1), (2, .int (x2 + r18)), (3, .int x3), (4, .int (x4 + 1))] [] s29)))) ∧ (¬ (x2 + r18) ≤ r21 → (∀ s31 : ZS, s31 = stI s20 20 21 r4 → (∀ s32 : ZS, s32 = stI s31 20 20 (((s31 20).1 20) + 1) → Z l ad D ia C X Y 13 [(0, .ref (ad 20 0)), (1, .int x1), (2, .int x2), (3, .int 1), (4, .int (x4 + 1))] [] s32))))))))) ∧ (¬ r8 = 0 → (∃ s33 : ZS, Ev l ad D ia d mX9_becomesOf [.ref (ad 20 0), .int x1, .int 1, .int ((-4))] s7 none s33 ∧ Z l ad D ia C X Y 13 [(0, .ref (ad 20 0)), (1, .int x1), (2, .int x2), (3, .int 1), (4, .int (x4 + 1))] [] s33))))) ∧ (r4 = ((-4)) → Z l ad D ia C X Y 13 [(0, .ref (ad 20 0)), (1, .int x1), (2, .int x2), (3, .int 1), (4, .int (x4 + 1))] [] s3)))))))) : Z l ad D ia C X Y 13 [(0, .ref (ad 20 0)), (1, .int x1), (2, .int x2), (3, .int x3), (4, .int x4)] [] s := by
  refine Z_iload hC dX9_readerGoes_13 rfl ?_
  refine Z_bipush (v := 8) hC dX9_readerGoes_15 rfl ?_
  refine Z_icmp_gt (tgt := 150) hC dX9_readerGoes_17 (by decide) (fun c1 => ?_) (fun c1 => ?_)
  · have k := k.1 c1
    exact Z_vret hC dX9_readerGoes_150 k.1 k.2
  · have k := k.2 c1
    refine Z_iload_n hC dX9_readerGoes_20 rfl rfl ?_
    refine Z_if_ne (tgt := 150) hC dX9_readerGoes_21 (by decide) (fun c2 => ?_) (fun c2 => ?_)
    · have k := k.1 c2
      exact Z_vret hC dX9_readerGoes_150 k.1 k.2
    · have k := k.2 c2
      refine Z_aload_n hC dX9_readerGoes_24 rfl rfl ?_
      refine Z_iload_n hC dX9_readerGoes_25 rfl rfl ?_
      refine Z_iconst (v := 1) hC dX9_readerGoes_26 rfl ?_
      obtain ⟨r4, s3, h5, k⟩ := k
      refine Z_callV (As := [.int x1, .int 1]) (rest := []) hC h5 cvX9_153 ⟨9, rfl, zs_9, _, rfl, rfl⟩ rfl rfl (Nat.le_of_ble_eq_true rfl) dX9_readerGoes_27 ?_
      refine Z_istore (V2 := [(5, .int r4), (0, .ref (ad 20 0)), (1, .int x1), (2, .int x2), (3, .int x3), (4, .int x4)]) hC dX9_readerGoes_30 (by decide) rfl ?_
      refine Z_iload hC dX9_readerGoes_32 rfl ?_
      refine Z_bipush (v := (-4)) hC dX9_readerGoes_34 rfl ?_
      refine Z_icmp_ne (tgt := 44) hC dX9_readerGoes_36 (by decide) (fun c6 => ?_) (fun c6 => ?_)
      · have k := k.1 c6
        refine Z_aload_n hC dX9_readerGoes_44 rfl rfl ?_
        refine Z_iload_n hC dX9_readerGoes_45 rfl rfl ?_
        refine Z_iload hC dX9_readerGoes_46 rfl ?_
        obtain ⟨r8, s7, h9, k⟩ := k
        refine Z_callV (As := [.int x1, .int r4]) (rest := []) hC h9 cvX9_181 ⟨9, rfl, zs_9, _, rfl, rfl⟩ rfl rfl (Nat.le_of_ble_eq_true rfl) dX9_readerGoes_48 ?_
        refine Z_if_eq (tgt := 67) hC dX9_readerGoes_51 (by decide) (fun c10 => ?_) (fun c10 => ?_)
        · have k := k.1 c10
          refine Z_aload_n hC dX9_readerGoes_67 rfl rfl ?_
          refine Z_iload_n hC dX9_readerGoes_68 rfl rfl ?_
          refine Z_iconst (v := 0) hC dX9_readerGoes_69 rfl ?_
          obtain ⟨r12, s11, h13, k⟩ := k
          refine Z_callV (As := [.int x1, .int 0]) (rest := []) hC h13 cvX9_153 ⟨9, rfl, zs_9, _, rfl, rfl⟩ rfl rfl (Nat.le_of_ble_eq_true rfl) dX9_readerGoes_70 ?_
          refine Z_aload_n hC dX9_readerGoes_73 rfl rfl ?_
          refine Z_iload hC dX9_readerGoes_74 rfl ?_
          refine Z_iconst (v := 1) hC dX9_readerGoes_76 rfl ?_
          obtain ⟨r15, s14, h16, k⟩ := k
          refine Z_callV (As := [.int r4, .int 1]) (rest := [.int r12]) hC h16 cvX9_156 ⟨9, rfl, zs_9, _, rfl, rfl⟩ rfl rfl (Nat.le_of_ble_eq_true rfl) dX9_readerGoes_77 ?_
          obtain ⟨r18, s17, h19, k⟩ := k
          refine Z_callS (As := [.int r12, .int r15]) (rest := []) hC h19 csX9_184 rfl rfl (Nat.le_of_ble_eq_true rfl) dX9_readerGoes_80 ?_
          refine Z_istore (V2 := [(6, .int r18), (5, .int r4), (0, .ref (ad 20 0)), (1, .int x1), (2, .int x2), (3, .int x3), (4, .int x4)]) hC dX9_readerGoes_83 (by decide) rfl ?_
          refine Z_iload_n hC dX9_readerGoes_85 rfl rfl ?_
          refine Z_iload hC dX9_readerGoes_86 rfl ?_
          refine Z_iadd hC dX9_readerGoes_88 ?_
          refine Z_aload_n hC dX9_readerGoes_89 rfl rfl ?_
          refine Z_iload_n hC dX9_readerGoes_90 rfl rfl ?_
          refine Z_iconst (v := 2) hC dX9_readerGoes_91 rfl ?_
          obtain ⟨r21, s20, h22, k⟩ := k
          refine Z_callV (As := [.int x1, .int 2]) (rest := [.int (x2 + r18)]) hC h22 cvX9_153 ⟨9, rfl, zs_9, _, rfl, rfl⟩ rfl rfl (Nat.le_of_ble_eq_true rfl) dX9_readerGoes_92 ?_
          refine Z_icmp_le (tgt := 119) hC dX9_readerGoes_95 (by decide) (fun c23 => ?_) (fun c23 => ?_)
          · have k := k.1 c23
            refine Z_aload_n hC dX9_readerGoes_119 rfl rfl ?_
            refine Z_iload_n hC dX9_readerGoes_120 rfl rfl ?_
            refine Z_iload hC dX9_readerGoes_121 rfl ?_
            obtain ⟨s24, h25, k⟩ := k
            refine Z_callV (As := [.int x1, .int r4]) (rest := []) hC h25 cvX9_187 ⟨9, rfl, zs_9, _, rfl, rfl⟩ rfl rfl (Nat.le_of_ble_eq_true rfl) dX9_readerGoes_123 ?_
            refine Z_iload_n hC dX9_readerGoes_126 rfl rfl ?_
            refine Z_iload hC dX9_readerGoes_127 rfl ?_
            refine Z_iadd hC dX9_readerGoes_129 ?_
            refine Z_istore_n (V2 := [(2, .int (x2 + r18)), (6, .int r18), (5, .int r4), (0, .ref (ad 20 0)), (1, .int x1), (3, .int x3), (4, .int x4)]) hC dX9_readerGoes_130 rfl (by decide) rfl ?_
            refine Z_aload_n hC dX9_readerGoes_131 rfl rfl ?_
            refine Z_iload_n hC dX9_readerGoes_132 rfl rfl ?_
            refine Z_iconst (v := 1) hC dX9_readerGoes_133 rfl ?_
            refine Z_aload_n hC dX9_readerGoes_134 rfl rfl ?_
            refine Z_iload hC dX9_readerGoes_135 rfl ?_
            refine Z_iconst (v := 2) hC dX9_readerGoes_137 rfl ?_
            obtain ⟨r27, s26, h28, k⟩ := k
            refine Z_callV (As := [.int r4, .int 2]) (rest := [.int 1, .int x1, .ref (ad 20 0)]) hC h28 cvX9_156 ⟨9, rfl, zs_9, _, rfl, rfl⟩ rfl rfl (Nat.le_of_ble_eq_true rfl) dX9_readerGoes_138 ?_
            obtain ⟨s29, h30, k⟩ := k
            refine Z_callV (As := [.int x1, .int 1, .int r27]) (rest := []) hC h30 cvX9_174 ⟨9, rfl, zs_9, _, rfl, rfl⟩ rfl rfl (Nat.le_of_ble_eq_true rfl) dX9_readerGoes_141 ?_
            refine Z_iinc (v := x4 + 1) (V2 := [(4, .int (x4 + 1)), (2, .int (x2 + r18)), (6, .int r18), (5, .int r4), (0, .ref (ad 20 0)), (1, .int x1), (3, .int x3)]) hC dX9_readerGoes_144 rfl rfl (by decide) rfl ?_
            refine Z_goto (tgt := 13) hC dX9_readerGoes_147 (by decide) ?_
            exact Z_pick [4, 5, 1, 6, 0] rfl k
          · have k := k.2 c23
            refine Z_aload_n hC dX9_readerGoes_98 rfl rfl ?_
            refine Z_iload hC dX9_readerGoes_99 rfl ?_
            refine Z_putI (o := 20) (k := 21) hC rfl zs_9 pkX9_178 rfl rfl (hsX9_21 _ _ _) dX9_readerGoes_101 (fun s31 es31 => ?_)
            have k := k s31 es31
            refine Z_aload_n hC dX9_readerGoes_104 rfl rfl ?_
            refine Z_dup hC dX9_readerGoes_105 rfl ?_
            refine Z_get (o := 20) (c := 9) (k := 20) (v := .int ((s31 20).1 20)) hC rfl zs_9 lkX9_168 rfl dX9_readerGoes_106 ?_
            refine Z_iconst (v := 1) hC dX9_readerGoes_109 rfl ?_
            refine Z_iadd hC dX9_readerGoes_110 ?_
            refine Z_putI (o := 20) (k := 20) hC rfl zs_9 pkX9_168 rfl rfl (hsX9_20 _ _ _) dX9_readerGoes_111 (fun s32 es32 => ?_)
            have k := k s32 es32
            refine Z_iconst (v := 1) hC dX9_readerGoes_114 rfl ?_
            refine Z_istore_n (V2 := [(3, .int 1), (6, .int r18), (5, .int r4), (0, .ref (ad 20 0)), (1, .int x1), (2, .int x2), (4, .int x4)]) hC dX9_readerGoes_115 rfl (by decide) rfl ?_
            refine Z_goto (tgt := 144) hC dX9_readerGoes_116 (by decide) ?_
            refine Z_iinc (v := x4 + 1) (V2 := [(4, .int (x4 + 1)), (3, .int 1), (6, .int r18), (5, .int r4), (0, .ref (ad 20 0)), (1, .int x1), (2, .int x2)]) hC dX9_readerGoes_144 rfl rfl (by decide) rfl ?_
            refine Z_goto (tgt := 13) hC dX9_readerGoes_147 (by decide) ?_
            exact Z_pick [4, 5, 6, 1, 0] rfl k
        · have k := k.2 c10
          refine Z_aload_n hC dX9_readerGoes_54 rfl rfl ?_
          refine Z_iload_n hC dX9_readerGoes_55 rfl rfl ?_
          refine Z_iconst (v := 1) hC dX9_readerGoes_56 rfl ?_
          refine Z_bipush (v := (-4)) hC dX9_readerGoes_57 rfl ?_
          obtain ⟨s33, h34, k⟩ := k
          refine Z_callV (As := [.int x1, .int 1, .int ((-4))]) (rest := []) hC h34 cvX9_174 ⟨9, rfl, zs_9, _, rfl, rfl⟩ rfl rfl (Nat.le_of_ble_eq_true rfl) dX9_readerGoes_59 ?_
          refine Z_iconst (v := 1) hC dX9_readerGoes_62 rfl ?_
          refine Z_istore_n (V2 := [(3, .int 1), (5, .int r4), (0, .ref (ad 20 0)), (1, .int x1), (2, .int x2), (4, .int x4)]) hC dX9_readerGoes_63 rfl (by decide) rfl ?_
          refine Z_goto (tgt := 144) hC dX9_readerGoes_64 (by decide) ?_
          refine Z_iinc (v := x4 + 1) (V2 := [(4, .int (x4 + 1)), (3, .int 1), (5, .int r4), (0, .ref (ad 20 0)), (1, .int x1), (2, .int x2)]) hC dX9_readerGoes_144 rfl rfl (by decide) rfl ?_
          refine Z_goto (tgt := 13) hC dX9_readerGoes_147 (by decide) ?_
          exact Z_pick [3, 4, 5, 1, 0] rfl k
      · have k := k.2 c6
        refine Z_iconst (v := 1) hC dX9_readerGoes_39 rfl ?_
        refine Z_istore_n (V2 := [(3, .int 1), (5, .int r4), (0, .ref (ad 20 0)), (1, .int x1), (2, .int x2), (4, .int x4)]) hC dX9_readerGoes_40 rfl (by decide) rfl ?_
        refine Z_goto (tgt := 144) hC dX9_readerGoes_41 (by decide) ?_
        refine Z_iinc (v := x4 + 1) (V2 := [(4, .int (x4 + 1)), (3, .int 1), (5, .int r4), (0, .ref (ad 20 0)), (1, .int x1), (2, .int x2)]) hC dX9_readerGoes_144 rfl rfl (by decide) rfl ?_
        refine Z_goto (tgt := 13) hC dX9_readerGoes_147 (by decide) ?_
        exact Z_pick [3, 4, 5, 1, 0] rfl k
set_option maxRecDepth 100000 in
set_option maxHeartbeats 4000000 in
theorem bX9_dayGoes_0 {C : ZC} {X : Option Value} {Y : ZS} {s : ZS} (hC : Zok ad D ia C (d + 1) cX9_dayGoes 2 RX9 none) (k : Z l ad D ia C X Y 2 [(0, .ref (ad 20 0)), (1, .int 0)] [] s) : Z l ad D ia C X Y 0 [(0, .ref (ad 20 0))] [] s := by
  refine Z_iconst (v := 0) hC dX9_dayGoes_0 rfl ?_
  refine Z_istore_n (V2 := [(1, .int 0), (0, .ref (ad 20 0))]) hC dX9_dayGoes_1 rfl (by decide) rfl ?_
  exact Z_pick [1, 0] rfl k
theorem eX9_dayGoes {X : Option Value} {Y : ZS} {s : ZS} (k : ∀ C : ZC, Zok ad D ia C (d + 1) cX9_dayGoes 2 RX9 none → Z l ad D ia C X Y 2 [(0, .ref (ad 20 0)), (1, .int 0)] [] s) : Ev l ad D ia (d + 1) mX9_dayGoes [.ref (ad 20 0)] s X Y :=
  Ev.start (by decide +kernel) (Nat.le_of_ble_eq_true rfl) (fun C hC => bX9_dayGoes_0  hC (k C hC))
set_option maxRecDepth 100000 in
set_option maxHeartbeats 4000000 in
theorem bX9_dayGoes_2 {x1 : Int32} {C : ZC} {X : Option Value} {Y : ZS} {s : ZS} (hC : Zok ad D ia C (d + 1) cX9_dayGoes 2 RX9 none) (k : ((((s 20).1 4) ≤ x1 → (vp_in 42 62 ∧ (vp_in 42 62 ∧ (∀ s4 : ZS, s4 = stA s 20 1 (42 : Int32).toNatClampNeg (((s 20).2.2 1 (42 : Int32).toNatClampNeg) + 1) → (X = none ∧ Y = s4))))) ∧ (¬ ((s 20).1 4) ≤ x1 → (∃ s5 : ZS, Ev l ad D ia d mX9_readerGoes [.ref (ad 20 0), .int x1] s none s5 ∧ Z l ad D ia C X Y 2 [(0, .ref (ad 20 0)), (1, .int (x1 + 1))] [] s5)))) : Z l ad D ia C X Y 2 [(0, .ref (ad 20 0)), (1, .int x1)] [] s := by
  refine Z_iload_n hC dX9_dayGoes_2 rfl rfl ?_
  refine Z_aload_n hC dX9_dayGoes_3 rfl rfl ?_
  refine Z_get (o := 20) (c := 9) (k := 4) (v := .int ((s 20).1 4)) hC rfl zs_9 lkX9_73 rfl dX9_dayGoes_4 ?_
  refine Z_icmp_ge (tgt := 21) hC dX9_dayGoes_7 (by decide) (fun c1 => ?_) (fun c1 => ?_)
  · have k := k.1 c1
    refine Z_aload_n hC dX9_dayGoes_21 rfl rfl ?_
    refine Z_get (o := 20) (c := 9) (k := 1) (v := .ref (ad 20 2)) hC rfl zs_9 lkX9_13 rfl dX9_dayGoes_22 ?_
    refine Z_bipush (v := 42) hC dX9_dayGoes_25 rfl ?_
    refine Z_dup2 hC dX9_dayGoes_27 rfl rfl ?_
    obtain ⟨h2, k⟩ := k
    refine Z_iald (o := 20) (k := 1) hC (zis_of rfl rfl) h2 dX9_dayGoes_28 ?_
    refine Z_iconst (v := 1) hC dX9_dayGoes_29 rfl ?_
    refine Z_iadd hC dX9_dayGoes_30 ?_
    obtain ⟨h3, k⟩ := k
    refine Z_iast2 (o := 20) (k := 1) hC (zis_of rfl rfl) h3 dX9_dayGoes_31 (fun s4 es4 => ?_)
    have k := k s4 es4
    exact Z_vret hC dX9_dayGoes_32 k.1 k.2
  · have k := k.2 c1
    refine Z_aload_n hC dX9_dayGoes_10 rfl rfl ?_
    refine Z_iload_n hC dX9_dayGoes_11 rfl rfl ?_
    obtain ⟨s5, h6, k⟩ := k
    refine Z_callV (As := [.int x1]) (rest := []) hC h6 cvX9_191 ⟨9, rfl, zs_9, _, rfl, rfl⟩ rfl rfl (Nat.le_of_ble_eq_true rfl) dX9_dayGoes_12 ?_
    refine Z_iinc (v := x1 + 1) (V2 := [(1, .int (x1 + 1)), (0, .ref (ad 20 0))]) hC dX9_dayGoes_15 rfl rfl (by decide) rfl ?_
    refine Z_goto (tgt := 2) hC dX9_dayGoes_18 (by decide) ?_
    exact Z_pick [1, 0] rfl k
set_option maxRecDepth 100000 in
set_option maxHeartbeats 4000000 in
theorem bX9_daysGo_0 {x1 : Int32} {C : ZC} {X : Option Value} {Y : ZS} {s : ZS} (hC : Zok ad D ia C (d + 1) cX9_daysGo 3 RX9 none) (k : (∃ s1 : ZS, Ev l ad D ia d mX9_startsCounting [.ref (ad 20 0)] s none s1 ∧ Z l ad D ia C X Y 6 [(0, .ref (ad 20 0)), (1, .int x1), (2, .int 0)] [] s1)) : Z l ad D ia C X Y 0 [(0, .ref (ad 20 0)), (1, .int x1)] [] s := by
  refine Z_aload_n hC dX9_daysGo_0 rfl rfl ?_
  obtain ⟨s1, h2, k⟩ := k
  refine Z_callV (As := []) (rest := []) hC h2 cvX9_194 ⟨9, rfl, zs_9, _, rfl, rfl⟩ rfl rfl (Nat.le_of_ble_eq_true rfl) dX9_daysGo_1 ?_
  refine Z_iconst (v := 0) hC dX9_daysGo_4 rfl ?_
  refine Z_istore_n (V2 := [(2, .int 0), (0, .ref (ad 20 0)), (1, .int x1)]) hC dX9_daysGo_5 rfl (by decide) rfl ?_
  exact Z_pick [1, 2, 0] rfl k
theorem eX9_daysGo {x1 : Int32} {X : Option Value} {Y : ZS} {s : ZS} (k : ∀ C : ZC, Zok ad D ia C (d + 1) cX9_daysGo 3 RX9 none → (∃ s1 : ZS, Ev l ad D ia d mX9_startsCounting [.ref (ad 20 0)] s none s1 ∧ Z l ad D ia C X Y 6 [(0, .ref (ad 20 0)), (1, .int x1), (2, .int 0)] [] s1)) : Ev l ad D ia (d + 1) mX9_daysGo [.ref (ad 20 0), .int x1] s X Y :=
  Ev.start (by decide +kernel) (Nat.le_of_ble_eq_true rfl) (fun C hC => bX9_daysGo_0  hC (k C hC))
set_option maxRecDepth 100000 in
set_option maxHeartbeats 4000000 in
theorem bX9_daysGo_6 {x1 : Int32} {x2 : Int32} {C : ZC} {X : Option Value} {Y : ZS} {s : ZS} (hC : Zok ad D ia C (d + 1) cX9_daysGo 3 RX9 none) (k : ((x1 ≤ x2 → (X = none ∧ Y = s)) ∧ (¬ x1 ≤ x2 → (∃ s2 : ZS, Ev l ad D ia d mX9_dayGoes [.ref (ad 20 0)] s none s2 ∧ Z l ad D ia C X Y 6 [(0, .ref (ad 20 0)), (1, .int x1), (2, .int (x2 + 1))] [] s2)))) : Z l ad D ia C X Y 6 [(0, .ref (ad 20 0)), (1, .int x1), (2, .int x2)] [] s := by
  refine Z_iload_n hC dX9_daysGo_6 rfl rfl ?_
  refine Z_iload_n hC dX9_daysGo_7 rfl rfl ?_
  refine Z_icmp_ge (tgt := 21) hC dX9_daysGo_8 (by decide) (fun c1 => ?_) (fun c1 => ?_)
  · have k := k.1 c1
    exact Z_vret hC dX9_daysGo_21 k.1 k.2
  · have k := k.2 c1
    refine Z_aload_n hC dX9_daysGo_11 rfl rfl ?_
    obtain ⟨s2, h3, k⟩ := k
    refine Z_callV (As := []) (rest := []) hC h3 cvX9_197 ⟨9, rfl, zs_9, _, rfl, rfl⟩ rfl rfl (Nat.le_of_ble_eq_true rfl) dX9_daysGo_12 ?_
    refine Z_iinc (v := x2 + 1) (V2 := [(2, .int (x2 + 1)), (0, .ref (ad 20 0)), (1, .int x1)]) hC dX9_daysGo_15 rfl rfl (by decide) rfl ?_
    refine Z_goto (tgt := 6) hC dX9_daysGo_18 (by decide) ?_
    exact Z_pick [1, 2, 0] rfl k
set_option maxRecDepth 100000 in
set_option maxHeartbeats 4000000 in
theorem bX9_doneNow_0 {C : ZC} {X : Option Value} {Y : ZS} {s : ZS} (hC : Zok ad D ia C (d + 1) cX9_doneNow 3 RX9 (some .int)) (k : Z l ad D ia C X Y 4 [(0, .ref (ad 20 0)), (1, .int 0), (2, .int 0)] [] s) : Z l ad D ia C X Y 0 [(0, .ref (ad 20 0))] [] s := by
  refine Z_iconst (v := 0) hC dX9_doneNow_0 rfl ?_
  refine Z_istore_n (V2 := [(1, .int 0), (0, .ref (ad 20 0))]) hC dX9_doneNow_1 rfl (by decide) rfl ?_
  refine Z_iconst (v := 0) hC dX9_doneNow_2 rfl ?_
  refine Z_istore_n (V2 := [(2, .int 0), (1, .int 0), (0, .ref (ad 20 0))]) hC dX9_doneNow_3 rfl (by decide) rfl ?_
  exact Z_pick [2, 1, 0] rfl k
theorem eX9_doneNow {X : Option Value} {Y : ZS} {s : ZS} (k : ∀ C : ZC, Zok ad D ia C (d + 1) cX9_doneNow 3 RX9 (some .int) → Z l ad D ia C X Y 4 [(0, .ref (ad 20 0)), (1, .int 0), (2, .int 0)] [] s) : Ev l ad D ia (d + 1) mX9_doneNow [.ref (ad 20 0)] s X Y :=
  Ev.start (by decide +kernel) (Nat.le_of_ble_eq_true rfl) (fun C hC => bX9_doneNow_0  hC (k C hC))
set_option maxRecDepth 100000 in
set_option maxHeartbeats 4000000 in
theorem bX9_doneNow_4 {x1 : Int32} {x2 : Int32} {C : ZC} {X : Option Value} {Y : ZS} {s : ZS} (hC : Zok ad D ia C (d + 1) cX9_doneNow 3 RX9 (some .int)) (k : ((((s 20).1 4) ≤ x2 → (X = some (.int x1) ∧ Y = s)) ∧ (¬ ((s 20).1 4) ≤ x2 → (∃ (r3 : Int32) (s2 : ZS), Ev l ad D ia d mX9_ofReader [.ref (ad 20 0), .int x2, .int 1] s (some (.int r3)) s2 ∧ ((¬ r3 = ((-4)) → (∃ (r7 : Int32) (s6 : ZS), Ev l ad D ia d mX9_flag [.int 0] s2 (some (.int r7)) s6 ∧ Z l ad D ia C X Y 4 [(0, .ref (ad 20 0)), (1, .int (x1 ||| (r7 <<< (x2 &&& 31)))), (2, .int (x2 + 1))] [] s6)) ∧ (r3 = ((-4)) → (∃ (r10 : Int32) (s9 : ZS), Ev l ad D ia d mX9_flag [.int 1] s2 (some (.int r10)) s9 ∧ Z l ad D ia C X Y 4 [(0, .ref (ad 20 0)), (1, .int (x1 ||| (r10 <<< (x2 &&& 31)))), (2, .int (x2 + 1))] [] s9))))))) : Z l ad D ia C X Y 4 [(0, .ref (ad 20 0)), (1, .int x1), (2, .int x2)] [] s := by
  refine Z_iload_n hC dX9_doneNow_4 rfl rfl ?_
  refine Z_aload_n hC dX9_doneNow_5 rfl rfl ?_
  refine Z_get (o := 20) (c := 9) (k := 4) (v := .int ((s 20).1 4)) hC rfl zs_9 lkX9_73 rfl dX9_doneNow_6 ?_
  refine Z_icmp_ge (tgt := 42) hC dX9_doneNow_9 (by decide) (fun c1 => ?_) (fun c1 => ?_)
  · have k := k.1 c1
    refine Z_iload_n hC dX9_doneNow_42 rfl rfl ?_
    exact Z_iret hC dX9_doneNow_43 k.1 k.2
  · have k := k.2 c1
    refine Z_iload_n hC dX9_doneNow_12 rfl rfl ?_
    refine Z_aload_n hC dX9_doneNow_13 rfl rfl ?_
    refine Z_iload_n hC dX9_doneNow_14 rfl rfl ?_
    refine Z_iconst (v := 1) hC dX9_doneNow_15 rfl ?_
    obtain ⟨r3, s2, h4, k⟩ := k
    refine Z_callV (As := [.int x2, .int 1]) (rest := [.int x1]) hC h4 cvX9_153 ⟨9, rfl, zs_9, _, rfl, rfl⟩ rfl rfl (Nat.le_of_ble_eq_true rfl) dX9_doneNow_16 ?_
    refine Z_bipush (v := (-4)) hC dX9_doneNow_19 rfl ?_
    refine Z_icmp_ne (tgt := 28) hC dX9_doneNow_21 (by decide) (fun c5 => ?_) (fun c5 => ?_)
    · have k := k.1 c5
      refine Z_iconst (v := 0) hC dX9_doneNow_28 rfl ?_
      obtain ⟨r7, s6, h8, k⟩ := k
      refine Z_callS (As := [.int 0]) (rest := [.int x1]) hC h8 csX9_200 rfl rfl (Nat.le_of_ble_eq_true rfl) dX9_doneNow_29 ?_
      refine Z_iload_n hC dX9_doneNow_32 rfl rfl ?_
      refine Z_ishl hC dX9_doneNow_33 ?_
      refine Z_ior hC dX9_doneNow_34 ?_
      refine Z_istore_n (V2 := [(1, .int (x1 ||| (r7 <<< (x2 &&& 31)))), (0, .ref (ad 20 0)), (2, .int x2)]) hC dX9_doneNow_35 rfl (by decide) rfl ?_
      refine Z_iinc (v := x2 + 1) (V2 := [(2, .int (x2 + 1)), (1, .int (x1 ||| (r7 <<< (x2 &&& 31)))), (0, .ref (ad 20 0))]) hC dX9_doneNow_36 rfl rfl (by decide) rfl ?_
      refine Z_goto (tgt := 4) hC dX9_doneNow_39 (by decide) ?_
      exact Z_pick [2, 1, 0] rfl k
    · have k := k.2 c5
      refine Z_iconst (v := 1) hC dX9_doneNow_24 rfl ?_
      refine Z_goto (tgt := 29) hC dX9_doneNow_25 (by decide) ?_
      obtain ⟨r10, s9, h11, k⟩ := k
      refine Z_callS (As := [.int 1]) (rest := [.int x1]) hC h11 csX9_200 rfl rfl (Nat.le_of_ble_eq_true rfl) dX9_doneNow_29 ?_
      refine Z_iload_n hC dX9_doneNow_32 rfl rfl ?_
      refine Z_ishl hC dX9_doneNow_33 ?_
      refine Z_ior hC dX9_doneNow_34 ?_
      refine Z_istore_n (V2 := [(1, .int (x1 ||| (r10 <<< (x2 &&& 31)))), (0, .ref (ad 20 0)), (2, .int x2)]) hC dX9_doneNow_35 rfl (by decide) rfl ?_
      refine Z_iinc (v := x2 + 1) (V2 := [(2, .int (x2 + 1)), (1, .int (x1 ||| (r10 <<< (x2 &&& 31)))), (0, .ref (ad 20 0))]) hC dX9_doneNow_36 rfl rfl (by decide) rfl ?_
      refine Z_goto (tgt := 4) hC dX9_doneNow_39 (by decide) ?_
      exact Z_pick [2, 1, 0] rfl k
set_option maxRecDepth 100000 in
set_option maxHeartbeats 4000000 in
theorem bX9_rule_0 {x1 : Int32} {C : ZC} {X : Option Value} {Y : ZS} {s : ZS} (hC : Zok ad D ia C (d + 1) cX9_rule 2 RX9 (some .int)) (k : (∃ s1 : ZS, Ev l ad D ia d mX9_starts [.ref (ad 20 0)] s none s1 ∧ ((x1 = 0 → (X = some (.int ((s1 20).1 3)) ∧ Y = s1)) ∧ (x1 = 1 → (X = some (.int ((s1 20).1 4)) ∧ Y = s1)) ∧ (x1 = 2 → (vp_in 40 186 ∧ (X = some (.int ((s1 20).2.2 0 (40 : Int32).toNatClampNeg)) ∧ Y = s1))) ∧ (x1 = 3 → (vp_in 41 186 ∧ (X = some (.int ((s1 20).2.2 0 (41 : Int32).toNatClampNeg)) ∧ Y = s1))) ∧ (x1 = 4 → (vp_in 42 186 ∧ (X = some (.int ((s1 20).2.2 0 (42 : Int32).toNatClampNeg)) ∧ Y = s1))) ∧ (x1 = 5 → (∃ (r13 : Int32) (s12 : ZS), Ev l ad D ia d mX9_doneNow [.ref (ad 20 0)] s1 (some (.int r13)) s12 ∧ (X = some (.int r13) ∧ Y = s12))) ∧ ((¬ x1 = 0 ∧ ¬ x1 = 1 ∧ ¬ x1 = 2 ∧ ¬ x1 = 3 ∧ ¬ x1 = 4 ∧ ¬ x1 = 5) → (X = some (.int ((-1))) ∧ Y = s1))))) : Z l ad D ia C X Y 0 [(0, .ref (ad 20 0)), (1, .int x1)] [] s := by
  refine Z_aload_n hC dX9_rule_0 rfl rfl ?_
  obtain ⟨s1, h2, k⟩ := k
  refine Z_callV (As := []) (rest := []) hC h2 cvX9_204 ⟨9, rfl, zs_9, _, rfl, rfl⟩ rfl rfl (Nat.le_of_ble_eq_true rfl) dX9_rule_1 ?_
  refine Z_iload_n hC dX9_rule_4 rfl rfl ?_
  by_cases c3 : x1 = 0
  · have c3x : (x1).toInt = 0 := by rw [c3]; rfl
    have k := k.1 c3
    refine Z_tabIn (tgt := 44) hC dX9_rule_5 (by omega) (by omega) (by rw [c3x]; rfl) (by decide) ?_
    refine Z_aload_n hC dX9_rule_44 rfl rfl ?_
    refine Z_get (o := 20) (c := 9) (k := 3) (v := .int ((s1 20).1 3)) hC rfl zs_9 lkX9_70 rfl dX9_rule_45 ?_
    exact Z_iret hC dX9_rule_48 k.1 k.2
  by_cases c4 : x1 = 1
  · have c4x : (x1).toInt = 1 := by rw [c4]; rfl
    have k := k.2.1 c4
    refine Z_tabIn (tgt := 49) hC dX9_rule_5 (by omega) (by omega) (by rw [c4x]; rfl) (by decide) ?_
    refine Z_aload_n hC dX9_rule_49 rfl rfl ?_
    refine Z_get (o := 20) (c := 9) (k := 4) (v := .int ((s1 20).1 4)) hC rfl zs_9 lkX9_73 rfl dX9_rule_50 ?_
    exact Z_iret hC dX9_rule_53 k.1 k.2
  by_cases c5 : x1 = 2
  · have c5x : (x1).toInt = 2 := by rw [c5]; rfl
    have k := k.2.2.1 c5
    refine Z_tabIn (tgt := 54) hC dX9_rule_5 (by omega) (by omega) (by rw [c5x]; rfl) (by decide) ?_
    refine Z_aload_n hC dX9_rule_54 rfl rfl ?_
    refine Z_get (o := 20) (c := 9) (k := 0) (v := .ref (ad 20 1)) hC rfl zs_9 lkX9_7 rfl dX9_rule_55 ?_
    refine Z_bipush (v := 40) hC dX9_rule_58 rfl ?_
    obtain ⟨h6, k⟩ := k
    refine Z_iald (o := 20) (k := 0) hC (zis_of rfl rfl) h6 dX9_rule_60 ?_
    exact Z_iret hC dX9_rule_61 k.1 k.2
  by_cases c7 : x1 = 3
  · have c7x : (x1).toInt = 3 := by rw [c7]; rfl
    have k := k.2.2.2.1 c7
    refine Z_tabIn (tgt := 62) hC dX9_rule_5 (by omega) (by omega) (by rw [c7x]; rfl) (by decide) ?_
    refine Z_aload_n hC dX9_rule_62 rfl rfl ?_
    refine Z_get (o := 20) (c := 9) (k := 0) (v := .ref (ad 20 1)) hC rfl zs_9 lkX9_7 rfl dX9_rule_63 ?_
    refine Z_bipush (v := 41) hC dX9_rule_66 rfl ?_
    obtain ⟨h8, k⟩ := k
    refine Z_iald (o := 20) (k := 0) hC (zis_of rfl rfl) h8 dX9_rule_68 ?_
    exact Z_iret hC dX9_rule_69 k.1 k.2
  by_cases c9 : x1 = 4
  · have c9x : (x1).toInt = 4 := by rw [c9]; rfl
    have k := k.2.2.2.2.1 c9
    refine Z_tabIn (tgt := 70) hC dX9_rule_5 (by omega) (by omega) (by rw [c9x]; rfl) (by decide) ?_
    refine Z_aload_n hC dX9_rule_70 rfl rfl ?_
    refine Z_get (o := 20) (c := 9) (k := 0) (v := .ref (ad 20 1)) hC rfl zs_9 lkX9_7 rfl dX9_rule_71 ?_
    refine Z_bipush (v := 42) hC dX9_rule_74 rfl ?_
    obtain ⟨h10, k⟩ := k
    refine Z_iald (o := 20) (k := 0) hC (zis_of rfl rfl) h10 dX9_rule_76 ?_
    exact Z_iret hC dX9_rule_77 k.1 k.2
  by_cases c11 : x1 = 5
  · have c11x : (x1).toInt = 5 := by rw [c11]; rfl
    have k := k.2.2.2.2.2.1 c11
    refine Z_tabIn (tgt := 78) hC dX9_rule_5 (by omega) (by omega) (by rw [c11x]; rfl) (by decide) ?_
    refine Z_aload_n hC dX9_rule_78 rfl rfl ?_
    obtain ⟨r13, s12, h14, k⟩ := k
    refine Z_callV (As := []) (rest := []) hC h14 cvX9_207 ⟨9, rfl, zs_9, _, rfl, rfl⟩ rfl rfl (Nat.le_of_ble_eq_true rfl) dX9_rule_79 ?_
    exact Z_iret hC dX9_rule_82 k.1 k.2
  have k := k.2.2.2.2.2.2 ⟨c3, c4, c5, c7, c9, c11⟩
  have z15 : (x1).toInt < 0 ∨ 5 < (x1).toInt := by
    apply tab_out
    intro z h1 h2
    rcases (show z = 0 ∨ z = 1 ∨ z = 2 ∨ z = 3 ∨ z = 4 ∨ z = 5 by omega) with rfl | rfl | rfl | rfl | rfl | rfl
    · exact fun e => c3 (Int32.toInt_inj.mp (show (x1).toInt = ((0 : Int32)).toInt from e))
    · exact fun e => c4 (Int32.toInt_inj.mp (show (x1).toInt = ((1 : Int32)).toInt from e))
    · exact fun e => c5 (Int32.toInt_inj.mp (show (x1).toInt = ((2 : Int32)).toInt from e))
    · exact fun e => c7 (Int32.toInt_inj.mp (show (x1).toInt = ((3 : Int32)).toInt from e))
    · exact fun e => c9 (Int32.toInt_inj.mp (show (x1).toInt = ((4 : Int32)).toInt from e))
    · exact fun e => c11 (Int32.toInt_inj.mp (show (x1).toInt = ((5 : Int32)).toInt from e))
  refine Z_tabOut (tgt := 83) hC dX9_rule_5 z15 (by decide) ?_
  refine Z_iconst (v := (-1)) hC dX9_rule_83 rfl ?_
  exact Z_iret hC dX9_rule_84 k.1 k.2
theorem eX9_rule {x1 : Int32} {X : Option Value} {Y : ZS} {s : ZS} (k : (∃ s1 : ZS, Ev l ad D ia d mX9_starts [.ref (ad 20 0)] s none s1 ∧ ((x1 = 0 → (X = some (.int ((s1 20).1 3)) ∧ Y = s1)) ∧ (x1 = 1 → (X = some (.int ((s1 20).1 4)) ∧ Y = s1)) ∧ (x1 = 2 → (vp_in 40 186 ∧ (X = some (.int ((s1 20).2.2 0 (40 : Int32).toNatClampNeg)) ∧ Y = s1))) ∧ (x1 = 3 → (vp_in 41 186 ∧ (X = some (.int ((s1 20).2.2 0 (41 : Int32).toNatClampNeg)) ∧ Y = s1))) ∧ (x1 = 4 → (vp_in 42 186 ∧ (X = some (.int ((s1 20).2.2 0 (42 : Int32).toNatClampNeg)) ∧ Y = s1))) ∧ (x1 = 5 → (∃ (r13 : Int32) (s12 : ZS), Ev l ad D ia d mX9_doneNow [.ref (ad 20 0)] s1 (some (.int r13)) s12 ∧ (X = some (.int r13) ∧ Y = s12))) ∧ ((¬ x1 = 0 ∧ ¬ x1 = 1 ∧ ¬ x1 = 2 ∧ ¬ x1 = 3 ∧ ¬ x1 = 4 ∧ ¬ x1 = 5) → (X = some (.int ((-1))) ∧ Y = s1))))) : Ev l ad D ia (d + 1) mX9_rule [.ref (ad 20 0), .int x1] s X Y :=
  Ev.start (by decide +kernel) (Nat.le_of_ble_eq_true rfl) (fun C hC => bX9_rule_0  hC k)
set_option maxRecDepth 100000 in
set_option maxHeartbeats 4000000 in
theorem bX9_book_0 {x1 : Int32} {x2 : Int32} {C : ZC} {X : Option Value} {Y : ZS} {s : ZS} (hC : Zok ad D ia C (d + 1) cX9_book 5 RX9 (some .int)) (k : (∃ (r2 : Int32) (s1 : ZS), Ev l ad D ia d mX9_isBook [.ref (ad 20 0), .int x1] s (some (.int r2)) s1 ∧ ((r2 = 0 → (X = some (.int ((-1))) ∧ Y = s1)) ∧ (¬ r2 = 0 → (∃ (r6 : Int32) (s5 : ZS), Ev l ad D ia d mX9_in [.long x2.toInt64, .long 0, .long ((3))] s1 (some (.int r6)) s5 ∧ ((¬ r6 = 0 → (∃ s9 : ZS, Ev l ad D ia d mX9_starts [.ref (ad 20 0)] s5 none s9 ∧ Z l ad D ia C X Y 31 [(0, .ref (ad 20 0)), (1, .int x1), (2, .int x2), (3, .int 0), (4, .int 0)] [] s9)) ∧ (r6 = 0 → (X = some (.int ((-1))) ∧ Y = s5)))))))) : Z l ad D ia C X Y 0 [(0, .ref (ad 20 0)), (1, .int x1), (2, .int x2)] [] s := by
  refine Z_aload_n hC dX9_book_0 rfl rfl ?_
  refine Z_iload_n hC dX9_book_1 rfl rfl ?_
  obtain ⟨r2, s1, h3, k⟩ := k
  refine Z_callV (As := [.int x1]) (rest := []) hC h3 cvX9_210 ⟨9, rfl, zs_9, _, rfl, rfl⟩ rfl rfl (Nat.le_of_ble_eq_true rfl) dX9_book_2 ?_
  refine Z_if_eq (tgt := 20) hC dX9_book_5 (by decide) (fun c4 => ?_) (fun c4 => ?_)
  · have k := k.1 c4
    refine Z_iconst (v := (-1)) hC dX9_book_20 rfl ?_
    exact Z_iret hC dX9_book_21 k.1 k.2
  · have k := k.2 c4
    refine Z_iload_n hC dX9_book_8 rfl rfl ?_
    refine Z_i2l hC dX9_book_9 ?_
    refine Z_lconst (v := 0) hC dX9_book_10 rfl ?_
    refine Z_ldc2 hC clX9_214 dX9_book_11 ?_
    obtain ⟨r6, s5, h7, k⟩ := k
    refine Z_callS (As := [.long x2.toInt64, .long 0, .long ((3))]) (rest := []) hC h7 csX9_78 rfl rfl (Nat.le_of_ble_eq_true rfl) dX9_book_14 ?_
    refine Z_if_ne (tgt := 22) hC dX9_book_17 (by decide) (fun c8 => ?_) (fun c8 => ?_)
    · have k := k.1 c8
      refine Z_aload_n hC dX9_book_22 rfl rfl ?_
      obtain ⟨s9, h10, k⟩ := k
      refine Z_callV (As := []) (rest := []) hC h10 cvX9_204 ⟨9, rfl, zs_9, _, rfl, rfl⟩ rfl rfl (Nat.le_of_ble_eq_true rfl) dX9_book_23 ?_
      refine Z_iconst (v := 0) hC dX9_book_26 rfl ?_
      refine Z_istore_n (V2 := [(3, .int 0), (0, .ref (ad 20 0)), (1, .int x1), (2, .int x2)]) hC dX9_book_27 rfl (by decide) rfl ?_
      refine Z_iconst (v := 0) hC dX9_book_28 rfl ?_
      refine Z_istore (V2 := [(4, .int 0), (3, .int 0), (0, .ref (ad 20 0)), (1, .int x1), (2, .int x2)]) hC dX9_book_29 (by decide) rfl ?_
      exact Z_pick [2, 3, 4, 1, 0] rfl k
    · have k := k.2 c8
      refine Z_iconst (v := (-1)) hC dX9_book_20 rfl ?_
      exact Z_iret hC dX9_book_21 k.1 k.2
theorem eX9_book {x1 : Int32} {x2 : Int32} {X : Option Value} {Y : ZS} {s : ZS} (k : ∀ C : ZC, Zok ad D ia C (d + 1) cX9_book 5 RX9 (some .int) → (∃ (r2 : Int32) (s1 : ZS), Ev l ad D ia d mX9_isBook [.ref (ad 20 0), .int x1] s (some (.int r2)) s1 ∧ ((r2 = 0 → (X = some (.int ((-1))) ∧ Y = s1)) ∧ (¬ r2 = 0 → (∃ (r6 : Int32) (s5 : ZS), Ev l ad D ia d mX9_in [.long x2.toInt64, .long 0, .long ((3))] s1 (some (.int r6)) s5 ∧ ((¬ r6 = 0 → (∃ s9 : ZS, Ev l ad D ia d mX9_starts [.ref (ad 20 0)] s5 none s9 ∧ Z l ad D ia C X Y 31 [(0, .ref (ad 20 0)), (1, .int x1), (2, .int x2), (3, .int 0), (4, .int 0)] [] s9)) ∧ (r6 = 0 → (X = some (.int ((-1))) ∧ Y = s5)))))))) : Ev l ad D ia (d + 1) mX9_book [.ref (ad 20 0), .int x1, .int x2] s X Y :=
  Ev.start (by decide +kernel) (Nat.le_of_ble_eq_true rfl) (fun C hC => bX9_book_0  hC (k C hC))
set_option maxRecDepth 100000 in
set_option maxHeartbeats 4000000 in
theorem bX9_book_31 {x1 : Int32} {x2 : Int32} {x3 : Int32} {x4 : Int32} {C : ZC} {X : Option Value} {Y : ZS} {s : ZS} (hC : Zok ad D ia C (d + 1) cX9_book 5 RX9 (some .int)) (k : ((((s 20).1 4) ≤ x4 → ((3 ≤ x2 → (X = some (.int x3) ∧ Y = s)) ∧ (¬ 3 ≤ x2 → (∃ (r4 : Int32) (s3 : ZS), Ev l ad D ia d mX9_of [.ref (ad 20 0), .int x1, .int x2] s (some (.int r4)) s3 ∧ (X = some (.int r4) ∧ Y = s3))))) ∧ (¬ ((s 20).1 4) ≤ x4 → (∃ (r7 : Int32) (s6 : ZS), Ev l ad D ia d mX9_had [.ref (ad 20 0), .int x4, .int x1] s (some (.int r7)) s6 ∧ (∃ (r10 : Int32) (s9 : ZS), Ev l ad D ia d mX9_flag [.int r7] s6 (some (.int r10)) s9 ∧ Z l ad D ia C X Y 31 [(0, .ref (ad 20 0)), (1, .int x1), (2, .int x2), (3, .int (x3 ||| (r10 <<< (x4 &&& 31)))), (4, .int (x4 + 1))] [] s9))))) : Z l ad D ia C X Y 31 [(0, .ref (ad 20 0)), (1, .int x1), (2, .int x2), (3, .int x3), (4, .int x4)] [] s := by
  refine Z_iload hC dX9_book_31 rfl ?_
  refine Z_aload_n hC dX9_book_33 rfl rfl ?_
  refine Z_get (o := 20) (c := 9) (k := 4) (v := .int ((s 20).1 4)) hC rfl zs_9 lkX9_73 rfl dX9_book_34 ?_
  refine Z_icmp_ge (tgt := 62) hC dX9_book_37 (by decide) (fun c1 => ?_) (fun c1 => ?_)
  · have k := k.1 c1
    refine Z_iload_n hC dX9_book_62 rfl rfl ?_
    refine Z_iconst (v := 3) hC dX9_book_63 rfl ?_
    refine Z_icmp_ge (tgt := 76) hC dX9_book_64 (by decide) (fun c2 => ?_) (fun c2 => ?_)
    · have k := k.1 c2
      refine Z_iload_n hC dX9_book_76 rfl rfl ?_
      exact Z_iret hC dX9_book_77 k.1 k.2
    · have k := k.2 c2
      refine Z_aload_n hC dX9_book_67 rfl rfl ?_
      refine Z_iload_n hC dX9_book_68 rfl rfl ?_
      refine Z_iload_n hC dX9_book_69 rfl rfl ?_
      obtain ⟨r4, s3, h5, k⟩ := k
      refine Z_callV (As := [.int x1, .int x2]) (rest := []) hC h5 cvX9_156 ⟨9, rfl, zs_9, _, rfl, rfl⟩ rfl rfl (Nat.le_of_ble_eq_true rfl) dX9_book_70 ?_
      refine Z_goto (tgt := 77) hC dX9_book_73 (by decide) ?_
      exact Z_iret hC dX9_book_77 k.1 k.2
  · have k := k.2 c1
    refine Z_iload_n hC dX9_book_40 rfl rfl ?_
    refine Z_aload_n hC dX9_book_41 rfl rfl ?_
    refine Z_iload hC dX9_book_42 rfl ?_
    refine Z_iload_n hC dX9_book_44 rfl rfl ?_
    obtain ⟨r7, s6, h8, k⟩ := k
    refine Z_callV (As := [.int x4, .int x1]) (rest := [.int x3]) hC h8 cvX9_181 ⟨9, rfl, zs_9, _, rfl, rfl⟩ rfl rfl (Nat.le_of_ble_eq_true rfl) dX9_book_45 ?_
    obtain ⟨r10, s9, h11, k⟩ := k
    refine Z_callS (As := [.int r7]) (rest := [.int x3]) hC h11 csX9_200 rfl rfl (Nat.le_of_ble_eq_true rfl) dX9_book_48 ?_
    refine Z_iload hC dX9_book_51 rfl ?_
    refine Z_ishl hC dX9_book_53 ?_
    refine Z_ior hC dX9_book_54 ?_
    refine Z_istore_n (V2 := [(3, .int (x3 ||| (r10 <<< (x4 &&& 31)))), (0, .ref (ad 20 0)), (1, .int x1), (2, .int x2), (4, .int x4)]) hC dX9_book_55 rfl (by decide) rfl ?_
    refine Z_iinc (v := x4 + 1) (V2 := [(4, .int (x4 + 1)), (3, .int (x3 ||| (r10 <<< (x4 &&& 31)))), (0, .ref (ad 20 0)), (1, .int x1), (2, .int x2)]) hC dX9_book_56 rfl rfl (by decide) rfl ?_
    refine Z_goto (tgt := 31) hC dX9_book_59 (by decide) ?_
    exact Z_pick [2, 3, 4, 1, 0] rfl k
set_option maxRecDepth 100000 in
set_option maxHeartbeats 4000000 in
theorem bX9_reader_0 {x1 : Int32} {x2 : Int32} {C : ZC} {X : Option Value} {Y : ZS} {s : ZS} (hC : Zok ad D ia C (d + 1) cX9_reader 4 RX9 (some .int)) (k : (∃ (r2 : Int32) (s1 : ZS), Ev l ad D ia d mX9_isReader [.ref (ad 20 0), .int x1] s (some (.int r2)) s1 ∧ ((r2 = 0 → (X = some (.int ((-1))) ∧ Y = s1)) ∧ (¬ r2 = 0 → (∃ (r6 : Int32) (s5 : ZS), Ev l ad D ia d mX9_in [.long x2.toInt64, .long 0, .long ((5))] s1 (some (.int r6)) s5 ∧ ((¬ r6 = 0 → (∃ s9 : ZS, Ev l ad D ia d mX9_starts [.ref (ad 20 0)] s5 none s9 ∧ ((4 ≤ x2 → (∃ (r13 : Int32) (s12 : ZS), Ev l ad D ia d mX9_ofReader [.ref (ad 20 0), .int x1, .int 1] s9 (some (.int r13)) s12 ∧ ((¬ r13 = ((-4)) → ((¬ x2 = 4 → (∃ (r18 : Int32) (s17 : ZS), Ev l ad D ia d mX9_ofReader [.ref (ad 20 0), .int x1, .int 0] s12 (some (.int r18)) s17 ∧ (∃ (r21 : Int32) (s20 : ZS), Ev l ad D ia d mX9_of [.ref (ad 20 0), .int r13, .int 1] s17 (some (.int r21)) s20 ∧ (∃ (r24 : Int32) (s23 : ZS), Ev l ad D ia d mX9_dizziness [.int r18, .int r21] s20 (some (.int r24)) s23 ∧ (X = some (.int r24) ∧ Y = s23))))) ∧ (x2 = 4 → (∃ (r27 : Int32) (s26 : ZS), Ev l ad D ia d mX9_minutesOf [.ref (ad 20 0), .int x1, .int r13] s12 (some (.int r27)) s26 ∧ (X = some (.int r27) ∧ Y = s26))))) ∧ (r13 = ((-4)) → (X = some (.int ((-4))) ∧ Y = s12))))) ∧ (¬ 4 ≤ x2 → (∃ (r30 : Int32) (s29 : ZS), Ev l ad D ia d mX9_ofReader [.ref (ad 20 0), .int x1, .int x2] s9 (some (.int r30)) s29 ∧ (X = some (.int r30) ∧ Y = s29)))))) ∧ (r6 = 0 → (X = some (.int ((-1))) ∧ Y = s5)))))))) : Z l ad D ia C X Y 0 [(0, .ref (ad 20 0)), (1, .int x1), (2, .int x2)] [] s := by
  refine Z_aload_n hC dX9_reader_0 rfl rfl ?_
  refine Z_iload_n hC dX9_reader_1 rfl rfl ?_
  obtain ⟨r2, s1, h3, k⟩ := k
  refine Z_callV (As := [.int x1]) (rest := []) hC h3 cvX9_216 ⟨9, rfl, zs_9, _, rfl, rfl⟩ rfl rfl (Nat.le_of_ble_eq_true rfl) dX9_reader_2 ?_
  refine Z_if_eq (tgt := 20) hC dX9_reader_5 (by decide) (fun c4 => ?_) (fun c4 => ?_)
  · have k := k.1 c4
    refine Z_iconst (v := (-1)) hC dX9_reader_20 rfl ?_
    exact Z_iret hC dX9_reader_21 k.1 k.2
  · have k := k.2 c4
    refine Z_iload_n hC dX9_reader_8 rfl rfl ?_
    refine Z_i2l hC dX9_reader_9 ?_
    refine Z_lconst (v := 0) hC dX9_reader_10 rfl ?_
    refine Z_ldc2 hC clX9_219 dX9_reader_11 ?_
    obtain ⟨r6, s5, h7, k⟩ := k
    refine Z_callS (As := [.long x2.toInt64, .long 0, .long ((5))]) (rest := []) hC h7 csX9_78 rfl rfl (Nat.le_of_ble_eq_true rfl) dX9_reader_14 ?_
    refine Z_if_ne (tgt := 22) hC dX9_reader_17 (by decide) (fun c8 => ?_) (fun c8 => ?_)
    · have k := k.1 c8
      refine Z_aload_n hC dX9_reader_22 rfl rfl ?_
      obtain ⟨s9, h10, k⟩ := k
      refine Z_callV (As := []) (rest := []) hC h10 cvX9_204 ⟨9, rfl, zs_9, _, rfl, rfl⟩ rfl rfl (Nat.le_of_ble_eq_true rfl) dX9_reader_23 ?_
      refine Z_iload_n hC dX9_reader_26 rfl rfl ?_
      refine Z_iconst (v := 4) hC dX9_reader_27 rfl ?_
      refine Z_icmp_ge (tgt := 38) hC dX9_reader_28 (by decide) (fun c11 => ?_) (fun c11 => ?_)
      · have k := k.1 c11
        refine Z_aload_n hC dX9_reader_38 rfl rfl ?_
        refine Z_iload_n hC dX9_reader_39 rfl rfl ?_
        refine Z_iconst (v := 1) hC dX9_reader_40 rfl ?_
        obtain ⟨r13, s12, h14, k⟩ := k
        refine Z_callV (As := [.int x1, .int 1]) (rest := []) hC h14 cvX9_153 ⟨9, rfl, zs_9, _, rfl, rfl⟩ rfl rfl (Nat.le_of_ble_eq_true rfl) dX9_reader_41 ?_
        refine Z_istore_n (V2 := [(3, .int r13), (0, .ref (ad 20 0)), (1, .int x1), (2, .int x2)]) hC dX9_reader_44 rfl (by decide) rfl ?_
        refine Z_iload_n hC dX9_reader_45 rfl rfl ?_
        refine Z_bipush (v := (-4)) hC dX9_reader_46 rfl ?_
        refine Z_icmp_ne (tgt := 56) hC dX9_reader_48 (by decide) (fun c15 => ?_) (fun c15 => ?_)
        · have k := k.1 c15
          refine Z_iload_n hC dX9_reader_56 rfl rfl ?_
          refine Z_iconst (v := 4) hC dX9_reader_57 rfl ?_
          refine Z_icmp_ne (tgt := 70) hC dX9_reader_58 (by decide) (fun c16 => ?_) (fun c16 => ?_)
          · have k := k.1 c16
            refine Z_aload_n hC dX9_reader_70 rfl rfl ?_
            refine Z_iload_n hC dX9_reader_71 rfl rfl ?_
            refine Z_iconst (v := 0) hC dX9_reader_72 rfl ?_
            obtain ⟨r18, s17, h19, k⟩ := k
            refine Z_callV (As := [.int x1, .int 0]) (rest := []) hC h19 cvX9_153 ⟨9, rfl, zs_9, _, rfl, rfl⟩ rfl rfl (Nat.le_of_ble_eq_true rfl) dX9_reader_73 ?_
            refine Z_aload_n hC dX9_reader_76 rfl rfl ?_
            refine Z_iload_n hC dX9_reader_77 rfl rfl ?_
            refine Z_iconst (v := 1) hC dX9_reader_78 rfl ?_
            obtain ⟨r21, s20, h22, k⟩ := k
            refine Z_callV (As := [.int r13, .int 1]) (rest := [.int r18]) hC h22 cvX9_156 ⟨9, rfl, zs_9, _, rfl, rfl⟩ rfl rfl (Nat.le_of_ble_eq_true rfl) dX9_reader_79 ?_
            obtain ⟨r24, s23, h25, k⟩ := k
            refine Z_callS (As := [.int r18, .int r21]) (rest := []) hC h25 csX9_184 rfl rfl (Nat.le_of_ble_eq_true rfl) dX9_reader_82 ?_
            exact Z_iret hC dX9_reader_85 k.1 k.2
          · have k := k.2 c16
            refine Z_aload_n hC dX9_reader_61 rfl rfl ?_
            refine Z_iload_n hC dX9_reader_62 rfl rfl ?_
            refine Z_iload_n hC dX9_reader_63 rfl rfl ?_
            obtain ⟨r27, s26, h28, k⟩ := k
            refine Z_callV (As := [.int x1, .int r13]) (rest := []) hC h28 cvX9_171 ⟨9, rfl, zs_9, _, rfl, rfl⟩ rfl rfl (Nat.le_of_ble_eq_true rfl) dX9_reader_64 ?_
            refine Z_goto (tgt := 85) hC dX9_reader_67 (by decide) ?_
            exact Z_iret hC dX9_reader_85 k.1 k.2
        · have k := k.2 c15
          refine Z_bipush (v := (-4)) hC dX9_reader_51 rfl ?_
          refine Z_goto (tgt := 85) hC dX9_reader_53 (by decide) ?_
          exact Z_iret hC dX9_reader_85 k.1 k.2
      · have k := k.2 c11
        refine Z_aload_n hC dX9_reader_31 rfl rfl ?_
        refine Z_iload_n hC dX9_reader_32 rfl rfl ?_
        refine Z_iload_n hC dX9_reader_33 rfl rfl ?_
        obtain ⟨r30, s29, h31, k⟩ := k
        refine Z_callV (As := [.int x1, .int x2]) (rest := []) hC h31 cvX9_153 ⟨9, rfl, zs_9, _, rfl, rfl⟩ rfl rfl (Nat.le_of_ble_eq_true rfl) dX9_reader_34 ?_
        exact Z_iret hC dX9_reader_37 k.1 k.2
    · have k := k.2 c8
      refine Z_iconst (v := (-1)) hC dX9_reader_20 rfl ?_
      exact Z_iret hC dX9_reader_21 k.1 k.2
theorem eX9_reader {x1 : Int32} {x2 : Int32} {X : Option Value} {Y : ZS} {s : ZS} (k : (∃ (r2 : Int32) (s1 : ZS), Ev l ad D ia d mX9_isReader [.ref (ad 20 0), .int x1] s (some (.int r2)) s1 ∧ ((r2 = 0 → (X = some (.int ((-1))) ∧ Y = s1)) ∧ (¬ r2 = 0 → (∃ (r6 : Int32) (s5 : ZS), Ev l ad D ia d mX9_in [.long x2.toInt64, .long 0, .long ((5))] s1 (some (.int r6)) s5 ∧ ((¬ r6 = 0 → (∃ s9 : ZS, Ev l ad D ia d mX9_starts [.ref (ad 20 0)] s5 none s9 ∧ ((4 ≤ x2 → (∃ (r13 : Int32) (s12 : ZS), Ev l ad D ia d mX9_ofReader [.ref (ad 20 0), .int x1, .int 1] s9 (some (.int r13)) s12 ∧ ((¬ r13 = ((-4)) → ((¬ x2 = 4 → (∃ (r18 : Int32) (s17 : ZS), Ev l ad D ia d mX9_ofReader [.ref (ad 20 0), .int x1, .int 0] s12 (some (.int r18)) s17 ∧ (∃ (r21 : Int32) (s20 : ZS), Ev l ad D ia d mX9_of [.ref (ad 20 0), .int r13, .int 1] s17 (some (.int r21)) s20 ∧ (∃ (r24 : Int32) (s23 : ZS), Ev l ad D ia d mX9_dizziness [.int r18, .int r21] s20 (some (.int r24)) s23 ∧ (X = some (.int r24) ∧ Y = s23))))) ∧ (x2 = 4 → (∃ (r27 : Int32) (s26 : ZS), Ev l ad D ia d mX9_minutesOf [.ref (ad 20 0), .int x1, .int r13] s12 (some (.int r27)) s26 ∧ (X = some (.int r27) ∧ Y = s26))))) ∧ (r13 = ((-4)) → (X = some (.int ((-4))) ∧ Y = s12))))) ∧ (¬ 4 ≤ x2 → (∃ (r30 : Int32) (s29 : ZS), Ev l ad D ia d mX9_ofReader [.ref (ad 20 0), .int x1, .int x2] s9 (some (.int r30)) s29 ∧ (X = some (.int r30) ∧ Y = s29)))))) ∧ (r6 = 0 → (X = some (.int ((-1))) ∧ Y = s5)))))))) : Ev l ad D ia (d + 1) mX9_reader [.ref (ad 20 0), .int x1, .int x2] s X Y :=
  Ev.start (by decide +kernel) (Nat.le_of_ble_eq_true rfl) (fun C hC => bX9_reader_0  hC k)
set_option maxRecDepth 100000 in
set_option maxHeartbeats 4000000 in
theorem bX9_becomes_0 {x1 : Int32} {x2 : Int32} {C : ZC} {X : Option Value} {Y : ZS} {s : ZS} (hC : Zok ad D ia C d cX9_becomes 4 RX9 (some .int)) (k : (vp_in x1 186 ∧ (vp_in x1 186 ∧ (∀ s3 : ZS, s3 = stA s 20 0 x1.toNatClampNeg x2 → (X = some (.int ((s 20).2.2 0 x1.toNatClampNeg)) ∧ Y = s3))))) : Z l ad D ia C X Y 0 [(0, .ref (ad 20 0)), (1, .int x1), (2, .int x2)] [] s := by
  refine Z_aload_n hC dX9_becomes_0 rfl rfl ?_
  refine Z_get (o := 20) (c := 9) (k := 0) (v := .ref (ad 20 1)) hC rfl zs_9 lkX9_7 rfl dX9_becomes_1 ?_
  refine Z_iload_n hC dX9_becomes_4 rfl rfl ?_
  obtain ⟨h1, k⟩ := k
  refine Z_iald (o := 20) (k := 0) hC (zis_of rfl rfl) h1 dX9_becomes_5 ?_
  refine Z_istore_n (V2 := [(3, .int ((s 20).2.2 0 x1.toNatClampNeg)), (0, .ref (ad 20 0)), (1, .int x1), (2, .int x2)]) hC dX9_becomes_6 rfl (by decide) rfl ?_
  refine Z_aload_n hC dX9_becomes_7 rfl rfl ?_
  refine Z_get (o := 20) (c := 9) (k := 0) (v := .ref (ad 20 1)) hC rfl zs_9 lkX9_7 rfl dX9_becomes_8 ?_
  refine Z_iload_n hC dX9_becomes_11 rfl rfl ?_
  refine Z_iload_n hC dX9_becomes_12 rfl rfl ?_
  obtain ⟨h2, k⟩ := k
  refine Z_iast2 (o := 20) (k := 0) hC (zis_of rfl rfl) h2 dX9_becomes_13 (fun s3 es3 => ?_)
  have k := k s3 es3
  refine Z_iload_n hC dX9_becomes_14 rfl rfl ?_
  exact Z_iret hC dX9_becomes_15 k.1 k.2
theorem eX9_becomes {x1 : Int32} {x2 : Int32} {X : Option Value} {Y : ZS} {s : ZS} (k : (vp_in x1 186 ∧ (vp_in x1 186 ∧ (∀ s3 : ZS, s3 = stA s 20 0 x1.toNatClampNeg x2 → (X = some (.int ((s 20).2.2 0 x1.toNatClampNeg)) ∧ Y = s3))))) : Ev l ad D ia d mX9_becomes [.ref (ad 20 0), .int x1, .int x2] s X Y :=
  Ev.start (by decide +kernel) (Nat.le_of_ble_eq_true rfl) (fun C hC => bX9_becomes_0  hC k)
set_option maxRecDepth 100000 in
set_option maxHeartbeats 4000000 in
theorem bX9_isBookOrNone_0 {x1 : Int32} {C : ZC} {X : Option Value} {Y : ZS} {s : ZS} (hC : Zok ad D ia C (d + 1) cX9_isBookOrNone 2 RX9 (some .boolean)) (k : ((x1 = 9 → (X = some (.int 1) ∧ Y = s)) ∧ (¬ x1 = 9 → (∃ (r3 : Int32) (s2 : ZS), Ev l ad D ia d mX9_isBook [.ref (ad 20 0), .int x1] s (some (.int r3)) s2 ∧ ((r3 = 0 → (X = some (.int 0) ∧ Y = s2)) ∧ (¬ r3 = 0 → (X = some (.int 1) ∧ Y = s2))))))) : Z l ad D ia C X Y 0 [(0, .ref (ad 20 0)), (1, .int x1)] [] s := by
  refine Z_iload_n hC dX9_isBookOrNone_0 rfl rfl ?_
  refine Z_bipush (v := 9) hC dX9_isBookOrNone_1 rfl ?_
  refine Z_icmp_eq (tgt := 14) hC dX9_isBookOrNone_3 (by decide) (fun c1 => ?_) (fun c1 => ?_)
  · have k := k.1 c1
    refine Z_iconst (v := 1) hC dX9_isBookOrNone_14 rfl ?_
    refine Z_goto (tgt := 19) hC dX9_isBookOrNone_15 (by decide) ?_
    exact Z_zret hC dX9_isBookOrNone_19 rfl k.1 k.2
  · have k := k.2 c1
    refine Z_aload_n hC dX9_isBookOrNone_6 rfl rfl ?_
    refine Z_iload_n hC dX9_isBookOrNone_7 rfl rfl ?_
    obtain ⟨r3, s2, h4, k⟩ := k
    refine Z_callV (As := [.int x1]) (rest := []) hC h4 cvX9_210 ⟨9, rfl, zs_9, _, rfl, rfl⟩ rfl rfl (Nat.le_of_ble_eq_true rfl) dX9_isBookOrNone_8 ?_
    refine Z_if_eq (tgt := 18) hC dX9_isBookOrNone_11 (by decide) (fun c5 => ?_) (fun c5 => ?_)
    · have k := k.1 c5
      refine Z_iconst (v := 0) hC dX9_isBookOrNone_18 rfl ?_
      exact Z_zret hC dX9_isBookOrNone_19 rfl k.1 k.2
    · have k := k.2 c5
      refine Z_iconst (v := 1) hC dX9_isBookOrNone_14 rfl ?_
      refine Z_goto (tgt := 19) hC dX9_isBookOrNone_15 (by decide) ?_
      exact Z_zret hC dX9_isBookOrNone_19 rfl k.1 k.2
theorem eX9_isBookOrNone {x1 : Int32} {X : Option Value} {Y : ZS} {s : ZS} (k : ((x1 = 9 → (X = some (.int 1) ∧ Y = s)) ∧ (¬ x1 = 9 → (∃ (r3 : Int32) (s2 : ZS), Ev l ad D ia d mX9_isBook [.ref (ad 20 0), .int x1] s (some (.int r3)) s2 ∧ ((r3 = 0 → (X = some (.int 0) ∧ Y = s2)) ∧ (¬ r3 = 0 → (X = some (.int 1) ∧ Y = s2))))))) : Ev l ad D ia (d + 1) mX9_isBookOrNone [.ref (ad 20 0), .int x1] s X Y :=
  Ev.start (by decide +kernel) (Nat.le_of_ble_eq_true rfl) (fun C hC => bX9_isBookOrNone_0  hC k)
set_option maxRecDepth 100000 in
set_option maxHeartbeats 4000000 in
theorem bX9_asKept_0 {x0 : Int32} {C : ZC} {X : Option Value} {Y : ZS} {s : ZS} (hC : Zok ad D ia C d cX9_asKept 1 RX9 (some .int)) (k : ((¬ x0 = 9 → (X = some (.int x0) ∧ Y = s)) ∧ (x0 = 9 → (X = some (.int ((-4))) ∧ Y = s)))) : Z l ad D ia C X Y 0 [(0, .int x0)] [] s := by
  refine Z_iload_n hC dX9_asKept_0 rfl rfl ?_
  refine Z_bipush (v := 9) hC dX9_asKept_1 rfl ?_
  refine Z_icmp_ne (tgt := 11) hC dX9_asKept_3 (by decide) (fun c1 => ?_) (fun c1 => ?_)
  · have k := k.1 c1
    refine Z_iload_n hC dX9_asKept_11 rfl rfl ?_
    exact Z_iret hC dX9_asKept_12 k.1 k.2
  · have k := k.2 c1
    refine Z_bipush (v := (-4)) hC dX9_asKept_6 rfl ?_
    refine Z_goto (tgt := 12) hC dX9_asKept_8 (by decide) ?_
    exact Z_iret hC dX9_asKept_12 k.1 k.2
theorem eX9_asKept {x0 : Int32} {X : Option Value} {Y : ZS} {s : ZS} (k : ((¬ x0 = 9 → (X = some (.int x0) ∧ Y = s)) ∧ (x0 = 9 → (X = some (.int ((-4))) ∧ Y = s)))) : Ev l ad D ia d mX9_asKept [.int x0] s X Y :=
  Ev.start (by decide +kernel) (Nat.le_of_ble_eq_true rfl) (fun C hC => bX9_asKept_0  hC k)
set_option maxRecDepth 100000 in
set_option maxHeartbeats 4000000 in
theorem bX9_shelve_0 {x1 : Int32} {x2 : Int32} {x3 : Int32} {C : ZC} {X : Option Value} {Y : ZS} {s : ZS} (hC : Zok ad D ia C (d + 1) cX9_shelve 5 RX9 (some .int)) (k : ((¬ x2 = 0 → ((¬ x2 = 1 → ((¬ x2 = 2 → Z l ad D ia C X Y 46 [(0, .ref (ad 20 0)), (1, .int x1), (2, .int x2), (3, .int x3)] [.int 0] s) ∧ (x2 = 2 → (∃ (r5 : Int32) (s4 : ZS), Ev l ad D ia d mX9_isBookOrNone [.ref (ad 20 0), .int x3] s (some (.int r5)) s4 ∧ ((r5 = 0 → Z l ad D ia C X Y 46 [(0, .ref (ad 20 0)), (1, .int x1), (2, .int x2), (3, .int x3)] [.int 0] s4) ∧ (¬ r5 = 0 → Z l ad D ia C X Y 46 [(0, .ref (ad 20 0)), (1, .int x1), (2, .int x2), (3, .int x3)] [.int 1] s4)))))) ∧ (x2 = 1 → (∃ (r9 : Int32) (s8 : ZS), Ev l ad D ia d mX9_in [.long x3.toInt64, .long 0, .long ((9))] s (some (.int r9)) s8 ∧ Z l ad D ia C X Y 46 [(0, .ref (ad 20 0)), (1, .int x1), (2, .int x2), (3, .int x3)] [.int r9] s8)))) ∧ (x2 = 0 → (∃ (r12 : Int32) (s11 : ZS), Ev l ad D ia d mX9_isBay [.int x3] s (some (.int r12)) s11 ∧ Z l ad D ia C X Y 46 [(0, .ref (ad 20 0)), (1, .int x1), (2, .int x2), (3, .int x3)] [.int r12] s11)))) : Z l ad D ia C X Y 0 [(0, .ref (ad 20 0)), (1, .int x1), (2, .int x2), (3, .int x3)] [] s := by
  refine Z_iload_n hC dX9_shelve_0 rfl rfl ?_
  refine Z_if_ne (tgt := 11) hC dX9_shelve_1 (by decide) (fun c1 => ?_) (fun c1 => ?_)
  · have k := k.1 c1
    refine Z_iload_n hC dX9_shelve_11 rfl rfl ?_
    refine Z_iconst (v := 1) hC dX9_shelve_12 rfl ?_
    refine Z_icmp_ne (tgt := 28) hC dX9_shelve_13 (by decide) (fun c2 => ?_) (fun c2 => ?_)
    · have k := k.1 c2
      refine Z_iload_n hC dX9_shelve_28 rfl rfl ?_
      refine Z_iconst (v := 2) hC dX9_shelve_29 rfl ?_
      refine Z_icmp_ne (tgt := 45) hC dX9_shelve_30 (by decide) (fun c3 => ?_) (fun c3 => ?_)
      · have k := k.1 c3
        refine Z_iconst (v := 0) hC dX9_shelve_45 rfl ?_
        exact k
      · have k := k.2 c3
        refine Z_aload_n hC dX9_shelve_33 rfl rfl ?_
        refine Z_iload_n hC dX9_shelve_34 rfl rfl ?_
        obtain ⟨r5, s4, h6, k⟩ := k
        refine Z_callV (As := [.int x3]) (rest := []) hC h6 cvX9_226 ⟨9, rfl, zs_9, _, rfl, rfl⟩ rfl rfl (Nat.le_of_ble_eq_true rfl) dX9_shelve_35 ?_
        refine Z_if_eq (tgt := 45) hC dX9_shelve_38 (by decide) (fun c7 => ?_) (fun c7 => ?_)
        · have k := k.1 c7
          refine Z_iconst (v := 0) hC dX9_shelve_45 rfl ?_
          exact k
        · have k := k.2 c7
          refine Z_iconst (v := 1) hC dX9_shelve_41 rfl ?_
          refine Z_goto (tgt := 46) hC dX9_shelve_42 (by decide) ?_
          exact k
    · have k := k.2 c2
      refine Z_iload_n hC dX9_shelve_16 rfl rfl ?_
      refine Z_i2l hC dX9_shelve_17 ?_
      refine Z_lconst (v := 0) hC dX9_shelve_18 rfl ?_
      refine Z_ldc2 hC clX9_224 dX9_shelve_19 ?_
      obtain ⟨r9, s8, h10, k⟩ := k
      refine Z_callS (As := [.long x3.toInt64, .long 0, .long ((9))]) (rest := []) hC h10 csX9_78 rfl rfl (Nat.le_of_ble_eq_true rfl) dX9_shelve_22 ?_
      refine Z_goto (tgt := 46) hC dX9_shelve_25 (by decide) ?_
      exact k
  · have k := k.2 c1
    refine Z_iload_n hC dX9_shelve_4 rfl rfl ?_
    obtain ⟨r12, s11, h13, k⟩ := k
    refine Z_callS (As := [.int x3]) (rest := []) hC h13 csX9_221 rfl rfl (Nat.le_of_ble_eq_true rfl) dX9_shelve_5 ?_
    refine Z_goto (tgt := 46) hC dX9_shelve_8 (by decide) ?_
    exact k
theorem eX9_shelve {x1 : Int32} {x2 : Int32} {x3 : Int32} {X : Option Value} {Y : ZS} {s : ZS} (k : ∀ C : ZC, Zok ad D ia C (d + 1) cX9_shelve 5 RX9 (some .int) → ((¬ x2 = 0 → ((¬ x2 = 1 → ((¬ x2 = 2 → Z l ad D ia C X Y 46 [(0, .ref (ad 20 0)), (1, .int x1), (2, .int x2), (3, .int x3)] [.int 0] s) ∧ (x2 = 2 → (∃ (r5 : Int32) (s4 : ZS), Ev l ad D ia d mX9_isBookOrNone [.ref (ad 20 0), .int x3] s (some (.int r5)) s4 ∧ ((r5 = 0 → Z l ad D ia C X Y 46 [(0, .ref (ad 20 0)), (1, .int x1), (2, .int x2), (3, .int x3)] [.int 0] s4) ∧ (¬ r5 = 0 → Z l ad D ia C X Y 46 [(0, .ref (ad 20 0)), (1, .int x1), (2, .int x2), (3, .int x3)] [.int 1] s4)))))) ∧ (x2 = 1 → (∃ (r9 : Int32) (s8 : ZS), Ev l ad D ia d mX9_in [.long x3.toInt64, .long 0, .long ((9))] s (some (.int r9)) s8 ∧ Z l ad D ia C X Y 46 [(0, .ref (ad 20 0)), (1, .int x1), (2, .int x2), (3, .int x3)] [.int r9] s8)))) ∧ (x2 = 0 → (∃ (r12 : Int32) (s11 : ZS), Ev l ad D ia d mX9_isBay [.int x3] s (some (.int r12)) s11 ∧ Z l ad D ia C X Y 46 [(0, .ref (ad 20 0)), (1, .int x1), (2, .int x2), (3, .int x3)] [.int r12] s11)))) : Ev l ad D ia (d + 1) mX9_shelve [.ref (ad 20 0), .int x1, .int x2, .int x3] s X Y :=
  Ev.start (by decide +kernel) (Nat.le_of_ble_eq_true rfl) (fun C hC => bX9_shelve_0  hC (k C hC))
set_option maxRecDepth 100000 in
set_option maxHeartbeats 4000000 in
theorem bX9_shelve_46 {x1 : Int32} {x2 : Int32} {x3 : Int32} {t0 : Int32} {C : ZC} {X : Option Value} {Y : ZS} {s : ZS} (hC : Zok ad D ia C (d + 1) cX9_shelve 5 RX9 (some .int)) (k : (∃ (r2 : Int32) (s1 : ZS), Ev l ad D ia d mX9_isBook [.ref (ad 20 0), .int x1] s (some (.int r2)) s1 ∧ ((r2 = 0 → (X = some (.int ((-1))) ∧ Y = s1)) ∧ (¬ r2 = 0 → ((t0 = 0 → (X = some (.int ((-1))) ∧ Y = s1)) ∧ (¬ t0 = 0 → ((¬ x2 = 2 → (∃ (r8 : Int32) (s7 : ZS), Ev l ad D ia d mX9_becomes [.ref (ad 20 0), .int ((3 * x1) + x2), .int x3] s1 (some (.int r8)) s7 ∧ (X = some (.int r8) ∧ Y = s7))) ∧ (x2 = 2 → (∃ (r11 : Int32) (s10 : ZS), Ev l ad D ia d mX9_asKept [.int x3] s1 (some (.int r11)) s10 ∧ (∃ (r14 : Int32) (s13 : ZS), Ev l ad D ia d mX9_becomes [.ref (ad 20 0), .int ((3 * x1) + x2), .int r11] s10 (some (.int r14)) s13 ∧ (X = some (.int r14) ∧ Y = s13))))))))))) : Z l ad D ia C X Y 46 [(0, .ref (ad 20 0)), (1, .int x1), (2, .int x2), (3, .int x3)] [.int t0] s := by
  refine Z_istore (V2 := [(4, .int t0), (0, .ref (ad 20 0)), (1, .int x1), (2, .int x2), (3, .int x3)]) hC dX9_shelve_46 (by decide) rfl ?_
  refine Z_aload_n hC dX9_shelve_48 rfl rfl ?_
  refine Z_iload_n hC dX9_shelve_49 rfl rfl ?_
  obtain ⟨r2, s1, h3, k⟩ := k
  refine Z_callV (As := [.int x1]) (rest := []) hC h3 cvX9_210 ⟨9, rfl, zs_9, _, rfl, rfl⟩ rfl rfl (Nat.le_of_ble_eq_true rfl) dX9_shelve_50 ?_
  refine Z_if_eq (tgt := 86) hC dX9_shelve_53 (by decide) (fun c4 => ?_) (fun c4 => ?_)
  · have k := k.1 c4
    refine Z_iconst (v := (-1)) hC dX9_shelve_86 rfl ?_
    exact Z_iret hC dX9_shelve_87 k.1 k.2
  · have k := k.2 c4
    refine Z_iload hC dX9_shelve_56 rfl ?_
    refine Z_if_eq (tgt := 86) hC dX9_shelve_58 (by decide) (fun c5 => ?_) (fun c5 => ?_)
    · have k := k.1 c5
      refine Z_iconst (v := (-1)) hC dX9_shelve_86 rfl ?_
      exact Z_iret hC dX9_shelve_87 k.1 k.2
    · have k := k.2 c5
      refine Z_aload_n hC dX9_shelve_61 rfl rfl ?_
      refine Z_iconst (v := 3) hC dX9_shelve_62 rfl ?_
      refine Z_iload_n hC dX9_shelve_63 rfl rfl ?_
      refine Z_imul hC dX9_shelve_64 ?_
      refine Z_iload_n hC dX9_shelve_65 rfl rfl ?_
      refine Z_iadd hC dX9_shelve_66 ?_
      refine Z_iload_n hC dX9_shelve_67 rfl rfl ?_
      refine Z_iconst (v := 2) hC dX9_shelve_68 rfl ?_
      refine Z_icmp_ne (tgt := 79) hC dX9_shelve_69 (by decide) (fun c6 => ?_) (fun c6 => ?_)
      · have k := k.1 c6
        refine Z_iload_n hC dX9_shelve_79 rfl rfl ?_
        obtain ⟨r8, s7, h9, k⟩ := k
        refine Z_callV (As := [.int ((3 * x1) + x2), .int x3]) (rest := []) hC h9 cvX9_232 ⟨9, rfl, zs_9, _, rfl, rfl⟩ rfl rfl (Nat.le_of_ble_eq_true rfl) dX9_shelve_80 ?_
        refine Z_goto (tgt := 87) hC dX9_shelve_83 (by decide) ?_
        exact Z_iret hC dX9_shelve_87 k.1 k.2
      · have k := k.2 c6
        refine Z_iload_n hC dX9_shelve_72 rfl rfl ?_
        obtain ⟨r11, s10, h12, k⟩ := k
        refine Z_callS (As := [.int x3]) (rest := [.int ((3 * x1) + x2), .ref (ad 20 0)]) hC h12 csX9_229 rfl rfl (Nat.le_of_ble_eq_true rfl) dX9_shelve_73 ?_
        refine Z_goto (tgt := 80) hC dX9_shelve_76 (by decide) ?_
        obtain ⟨r14, s13, h15, k⟩ := k
        refine Z_callV (As := [.int ((3 * x1) + x2), .int r11]) (rest := []) hC h15 cvX9_232 ⟨9, rfl, zs_9, _, rfl, rfl⟩ rfl rfl (Nat.le_of_ble_eq_true rfl) dX9_shelve_80 ?_
        refine Z_goto (tgt := 87) hC dX9_shelve_83 (by decide) ?_
        exact Z_iret hC dX9_shelve_87 k.1 k.2
set_option maxRecDepth 100000 in
set_option maxHeartbeats 4000000 in
theorem bX9_alter_0 {x1 : Int32} {x2 : Int32} {x3 : Int32} {C : ZC} {X : Option Value} {Y : ZS} {s : ZS} (hC : Zok ad D ia C (d + 1) cX9_alter 5 RX9 (some .int)) (k : ((¬ x2 = 0 → ((¬ x2 = 1 → ((¬ x2 = 2 → Z l ad D ia C X Y 51 [(0, .ref (ad 20 0)), (1, .int x1), (2, .int x2), (3, .int x3)] [.int 0] s) ∧ (x2 = 2 → (∃ (r5 : Int32) (s4 : ZS), Ev l ad D ia d mX9_in [.long x3.toInt64, .long 1, .long ((99))] s (some (.int r5)) s4 ∧ ((r5 = 0 → Z l ad D ia C X Y 51 [(0, .ref (ad 20 0)), (1, .int x1), (2, .int x2), (3, .int x3)] [.int 0] s4) ∧ (¬ r5 = 0 → Z l ad D ia C X Y 51 [(0, .ref (ad 20 0)), (1, .int x1), (2, .int x2), (3, .int x3)] [.int 1] s4)))))) ∧ (x2 = 1 → (∃ (r9 : Int32) (s8 : ZS), Ev l ad D ia d mX9_isBookOrNone [.ref (ad 20 0), .int x3] s (some (.int r9)) s8 ∧ Z l ad D ia C X Y 51 [(0, .ref (ad 20 0)), (1, .int x1), (2, .int x2), (3, .int x3)] [.int r9] s8)))) ∧ (x2 = 0 → (∃ (r12 : Int32) (s11 : ZS), Ev l ad D ia d mX9_in [.long x3.toInt64, .long 0, .long ((3))] s (some (.int r12)) s11 ∧ Z l ad D ia C X Y 51 [(0, .ref (ad 20 0)), (1, .int x1), (2, .int x2), (3, .int x3)] [.int r12] s11)))) : Z l ad D ia C X Y 0 [(0, .ref (ad 20 0)), (1, .int x1), (2, .int x2), (3, .int x3)] [] s := by
  refine Z_iload_n hC dX9_alter_0 rfl rfl ?_
  refine Z_if_ne (tgt := 16) hC dX9_alter_1 (by decide) (fun c1 => ?_) (fun c1 => ?_)
  · have k := k.1 c1
    refine Z_iload_n hC dX9_alter_16 rfl rfl ?_
    refine Z_iconst (v := 1) hC dX9_alter_17 rfl ?_
    refine Z_icmp_ne (tgt := 29) hC dX9_alter_18 (by decide) (fun c2 => ?_) (fun c2 => ?_)
    · have k := k.1 c2
      refine Z_iload_n hC dX9_alter_29 rfl rfl ?_
      refine Z_iconst (v := 2) hC dX9_alter_30 rfl ?_
      refine Z_icmp_ne (tgt := 50) hC dX9_alter_31 (by decide) (fun c3 => ?_) (fun c3 => ?_)
      · have k := k.1 c3
        refine Z_iconst (v := 0) hC dX9_alter_50 rfl ?_
        exact k
      · have k := k.2 c3
        refine Z_iload_n hC dX9_alter_34 rfl rfl ?_
        refine Z_i2l hC dX9_alter_35 ?_
        refine Z_lconst (v := 1) hC dX9_alter_36 rfl ?_
        refine Z_ldc2 hC clX9_235 dX9_alter_37 ?_
        obtain ⟨r5, s4, h6, k⟩ := k
        refine Z_callS (As := [.long x3.toInt64, .long 1, .long ((99))]) (rest := []) hC h6 csX9_78 rfl rfl (Nat.le_of_ble_eq_true rfl) dX9_alter_40 ?_
        refine Z_if_eq (tgt := 50) hC dX9_alter_43 (by decide) (fun c7 => ?_) (fun c7 => ?_)
        · have k := k.1 c7
          refine Z_iconst (v := 0) hC dX9_alter_50 rfl ?_
          exact k
        · have k := k.2 c7
          refine Z_iconst (v := 1) hC dX9_alter_46 rfl ?_
          refine Z_goto (tgt := 51) hC dX9_alter_47 (by decide) ?_
          exact k
    · have k := k.2 c2
      refine Z_aload_n hC dX9_alter_21 rfl rfl ?_
      refine Z_iload_n hC dX9_alter_22 rfl rfl ?_
      obtain ⟨r9, s8, h10, k⟩ := k
      refine Z_callV (As := [.int x3]) (rest := []) hC h10 cvX9_226 ⟨9, rfl, zs_9, _, rfl, rfl⟩ rfl rfl (Nat.le_of_ble_eq_true rfl) dX9_alter_23 ?_
      refine Z_goto (tgt := 51) hC dX9_alter_26 (by decide) ?_
      exact k
  · have k := k.2 c1
    refine Z_iload_n hC dX9_alter_4 rfl rfl ?_
    refine Z_i2l hC dX9_alter_5 ?_
    refine Z_lconst (v := 0) hC dX9_alter_6 rfl ?_
    refine Z_ldc2 hC clX9_214 dX9_alter_7 ?_
    obtain ⟨r12, s11, h13, k⟩ := k
    refine Z_callS (As := [.long x3.toInt64, .long 0, .long ((3))]) (rest := []) hC h13 csX9_78 rfl rfl (Nat.le_of_ble_eq_true rfl) dX9_alter_10 ?_
    refine Z_goto (tgt := 51) hC dX9_alter_13 (by decide) ?_
    exact k
theorem eX9_alter {x1 : Int32} {x2 : Int32} {x3 : Int32} {X : Option Value} {Y : ZS} {s : ZS} (k : ∀ C : ZC, Zok ad D ia C (d + 1) cX9_alter 5 RX9 (some .int) → ((¬ x2 = 0 → ((¬ x2 = 1 → ((¬ x2 = 2 → Z l ad D ia C X Y 51 [(0, .ref (ad 20 0)), (1, .int x1), (2, .int x2), (3, .int x3)] [.int 0] s) ∧ (x2 = 2 → (∃ (r5 : Int32) (s4 : ZS), Ev l ad D ia d mX9_in [.long x3.toInt64, .long 1, .long ((99))] s (some (.int r5)) s4 ∧ ((r5 = 0 → Z l ad D ia C X Y 51 [(0, .ref (ad 20 0)), (1, .int x1), (2, .int x2), (3, .int x3)] [.int 0] s4) ∧ (¬ r5 = 0 → Z l ad D ia C X Y 51 [(0, .ref (ad 20 0)), (1, .int x1), (2, .int x2), (3, .int x3)] [.int 1] s4)))))) ∧ (x2 = 1 → (∃ (r9 : Int32) (s8 : ZS), Ev l ad D ia d mX9_isBookOrNone [.ref (ad 20 0), .int x3] s (some (.int r9)) s8 ∧ Z l ad D ia C X Y 51 [(0, .ref (ad 20 0)), (1, .int x1), (2, .int x2), (3, .int x3)] [.int r9] s8)))) ∧ (x2 = 0 → (∃ (r12 : Int32) (s11 : ZS), Ev l ad D ia d mX9_in [.long x3.toInt64, .long 0, .long ((3))] s (some (.int r12)) s11 ∧ Z l ad D ia C X Y 51 [(0, .ref (ad 20 0)), (1, .int x1), (2, .int x2), (3, .int x3)] [.int r12] s11)))) : Ev l ad D ia (d + 1) mX9_alter [.ref (ad 20 0), .int x1, .int x2, .int x3] s X Y :=
  Ev.start (by decide +kernel) (Nat.le_of_ble_eq_true rfl) (fun C hC => bX9_alter_0  hC (k C hC))
set_option maxRecDepth 100000 in
set_option maxHeartbeats 4000000 in
theorem bX9_alter_51 {x1 : Int32} {x2 : Int32} {x3 : Int32} {t0 : Int32} {C : ZC} {X : Option Value} {Y : ZS} {s : ZS} (hC : Zok ad D ia C (d + 1) cX9_alter 5 RX9 (some .int)) (k : (∃ (r2 : Int32) (s1 : ZS), Ev l ad D ia d mX9_isReader [.ref (ad 20 0), .int x1] s (some (.int r2)) s1 ∧ ((r2 = 0 → (X = some (.int ((-1))) ∧ Y = s1)) ∧ (¬ r2 = 0 → ((t0 = 0 → (X = some (.int ((-1))) ∧ Y = s1)) ∧ (¬ t0 = 0 → ((¬ x2 = 1 → (∃ (r8 : Int32) (s7 : ZS), Ev l ad D ia d mX9_becomes [.ref (ad 20 0), .int ((24 + (4 * x1)) + x2), .int x3] s1 (some (.int r8)) s7 ∧ (X = some (.int r8) ∧ Y = s7))) ∧ (x2 = 1 → (∃ (r11 : Int32) (s10 : ZS), Ev l ad D ia d mX9_asKept [.int x3] s1 (some (.int r11)) s10 ∧ (∃ (r14 : Int32) (s13 : ZS), Ev l ad D ia d mX9_becomes [.ref (ad 20 0), .int ((24 + (4 * x1)) + x2), .int r11] s10 (some (.int r14)) s13 ∧ (X = some (.int r14) ∧ Y = s13))))))))))) : Z l ad D ia C X Y 51 [(0, .ref (ad 20 0)), (1, .int x1), (2, .int x2), (3, .int x3)] [.int t0] s := by
  refine Z_istore (V2 := [(4, .int t0), (0, .ref (ad 20 0)), (1, .int x1), (2, .int x2), (3, .int x3)]) hC dX9_alter_51 (by decide) rfl ?_
  refine Z_aload_n hC dX9_alter_53 rfl rfl ?_
  refine Z_iload_n hC dX9_alter_54 rfl rfl ?_
  obtain ⟨r2, s1, h3, k⟩ := k
  refine Z_callV (As := [.int x1]) (rest := []) hC h3 cvX9_216 ⟨9, rfl, zs_9, _, rfl, rfl⟩ rfl rfl (Nat.le_of_ble_eq_true rfl) dX9_alter_55 ?_
  refine Z_if_eq (tgt := 94) hC dX9_alter_58 (by decide) (fun c4 => ?_) (fun c4 => ?_)
  · have k := k.1 c4
    refine Z_iconst (v := (-1)) hC dX9_alter_94 rfl ?_
    exact Z_iret hC dX9_alter_95 k.1 k.2
  · have k := k.2 c4
    refine Z_iload hC dX9_alter_61 rfl ?_
    refine Z_if_eq (tgt := 94) hC dX9_alter_63 (by decide) (fun c5 => ?_) (fun c5 => ?_)
    · have k := k.1 c5
      refine Z_iconst (v := (-1)) hC dX9_alter_94 rfl ?_
      exact Z_iret hC dX9_alter_95 k.1 k.2
    · have k := k.2 c5
      refine Z_aload_n hC dX9_alter_66 rfl rfl ?_
      refine Z_bipush (v := 24) hC dX9_alter_67 rfl ?_
      refine Z_iconst (v := 4) hC dX9_alter_69 rfl ?_
      refine Z_iload_n hC dX9_alter_70 rfl rfl ?_
      refine Z_imul hC dX9_alter_71 ?_
      refine Z_iadd hC dX9_alter_72 ?_
      refine Z_iload_n hC dX9_alter_73 rfl rfl ?_
      refine Z_iadd hC dX9_alter_74 ?_
      refine Z_iload_n hC dX9_alter_75 rfl rfl ?_
      refine Z_iconst (v := 1) hC dX9_alter_76 rfl ?_
      refine Z_icmp_ne (tgt := 87) hC dX9_alter_77 (by decide) (fun c6 => ?_) (fun c6 => ?_)
      · have k := k.1 c6
        refine Z_iload_n hC dX9_alter_87 rfl rfl ?_
        obtain ⟨r8, s7, h9, k⟩ := k
        refine Z_callV (As := [.int ((24 + (4 * x1)) + x2), .int x3]) (rest := []) hC h9 cvX9_232 ⟨9, rfl, zs_9, _, rfl, rfl⟩ rfl rfl (Nat.le_of_ble_eq_true rfl) dX9_alter_88 ?_
        refine Z_goto (tgt := 95) hC dX9_alter_91 (by decide) ?_
        exact Z_iret hC dX9_alter_95 k.1 k.2
      · have k := k.2 c6
        refine Z_iload_n hC dX9_alter_80 rfl rfl ?_
        obtain ⟨r11, s10, h12, k⟩ := k
        refine Z_callS (As := [.int x3]) (rest := [.int ((24 + (4 * x1)) + x2), .ref (ad 20 0)]) hC h12 csX9_229 rfl rfl (Nat.le_of_ble_eq_true rfl) dX9_alter_81 ?_
        refine Z_goto (tgt := 88) hC dX9_alter_84 (by decide) ?_
        obtain ⟨r14, s13, h15, k⟩ := k
        refine Z_callV (As := [.int ((24 + (4 * x1)) + x2), .int r11]) (rest := []) hC h15 cvX9_232 ⟨9, rfl, zs_9, _, rfl, rfl⟩ rfl rfl (Nat.le_of_ble_eq_true rfl) dX9_alter_88 ?_
        refine Z_goto (tgt := 95) hC dX9_alter_91 (by decide) ?_
        exact Z_iret hC dX9_alter_95 k.1 k.2
set_option maxRecDepth 100000 in
set_option maxHeartbeats 4000000 in
theorem bX9_roll_0 {x1 : Int32} {C : ZC} {X : Option Value} {Y : ZS} {s : ZS} (hC : Zok ad D ia C (d + 1) cX9_roll 2 RX9 (some .int)) (k : (∃ (r2 : Int32) (s1 : ZS), Ev l ad D ia d mX9_isBay [.int x1] s (some (.int r2)) s1 ∧ ((r2 = 0 → (X = some (.int ((-1))) ∧ Y = s1)) ∧ (¬ r2 = 0 → (∃ (r6 : Int32) (s5 : ZS), Ev l ad D ia d mX9_becomes [.ref (ad 20 0), .int 40, .int x1] s1 (some (.int r6)) s5 ∧ (X = some (.int r6) ∧ Y = s5)))))) : Z l ad D ia C X Y 0 [(0, .ref (ad 20 0)), (1, .int x1)] [] s := by
  refine Z_iload_n hC dX9_roll_0 rfl rfl ?_
  obtain ⟨r2, s1, h3, k⟩ := k
  refine Z_callS (As := [.int x1]) (rest := []) hC h3 csX9_221 rfl rfl (Nat.le_of_ble_eq_true rfl) dX9_roll_1 ?_
  refine Z_if_eq (tgt := 17) hC dX9_roll_4 (by decide) (fun c4 => ?_) (fun c4 => ?_)
  · have k := k.1 c4
    refine Z_iconst (v := (-1)) hC dX9_roll_17 rfl ?_
    exact Z_iret hC dX9_roll_18 k.1 k.2
  · have k := k.2 c4
    refine Z_aload_n hC dX9_roll_7 rfl rfl ?_
    refine Z_bipush (v := 40) hC dX9_roll_8 rfl ?_
    refine Z_iload_n hC dX9_roll_10 rfl rfl ?_
    obtain ⟨r6, s5, h7, k⟩ := k
    refine Z_callV (As := [.int 40, .int x1]) (rest := []) hC h7 cvX9_232 ⟨9, rfl, zs_9, _, rfl, rfl⟩ rfl rfl (Nat.le_of_ble_eq_true rfl) dX9_roll_11 ?_
    refine Z_goto (tgt := 18) hC dX9_roll_14 (by decide) ?_
    exact Z_iret hC dX9_roll_18 k.1 k.2
theorem eX9_roll {x1 : Int32} {X : Option Value} {Y : ZS} {s : ZS} (k : (∃ (r2 : Int32) (s1 : ZS), Ev l ad D ia d mX9_isBay [.int x1] s (some (.int r2)) s1 ∧ ((r2 = 0 → (X = some (.int ((-1))) ∧ Y = s1)) ∧ (¬ r2 = 0 → (∃ (r6 : Int32) (s5 : ZS), Ev l ad D ia d mX9_becomes [.ref (ad 20 0), .int 40, .int x1] s1 (some (.int r6)) s5 ∧ (X = some (.int r6) ∧ Y = s5)))))) : Ev l ad D ia (d + 1) mX9_roll [.ref (ad 20 0), .int x1] s X Y :=
  Ev.start (by decide +kernel) (Nat.le_of_ble_eq_true rfl) (fun C hC => bX9_roll_0  hC k)
set_option maxRecDepth 100000 in
set_option maxHeartbeats 4000000 in
theorem bX9_forgets_0 {x1 : Int32} {C : ZC} {X : Option Value} {Y : ZS} {s : ZS} (hC : Zok ad D ia C (d + 1) cX9_forgets 2 RX9 (some .int)) (k : (∃ (r2 : Int32) (s1 : ZS), Ev l ad D ia d mX9_isReader [.ref (ad 20 0), .int x1] s (some (.int r2)) s1 ∧ ((r2 = 0 → (X = some (.int ((-1))) ∧ Y = s1)) ∧ (¬ r2 = 0 → (∃ (r6 : Int32) (s5 : ZS), Ev l ad D ia d mX9_becomes [.ref (ad 20 0), .int ((24 + (4 * x1)) + 3), .int 0] s1 (some (.int r6)) s5 ∧ (∃ (r9 : Int32) (s8 : ZS), Ev l ad D ia d mX9_bitsOf [.int r6] s5 (some (.int r9)) s8 ∧ (X = some (.int r9) ∧ Y = s8))))))) : Z l ad D ia C X Y 0 [(0, .ref (ad 20 0)), (1, .int x1)] [] s := by
  refine Z_aload_n hC dX9_forgets_0 rfl rfl ?_
  refine Z_iload_n hC dX9_forgets_1 rfl rfl ?_
  obtain ⟨r2, s1, h3, k⟩ := k
  refine Z_callV (As := [.int x1]) (rest := []) hC h3 cvX9_216 ⟨9, rfl, zs_9, _, rfl, rfl⟩ rfl rfl (Nat.le_of_ble_eq_true rfl) dX9_forgets_2 ?_
  refine Z_if_eq (tgt := 27) hC dX9_forgets_5 (by decide) (fun c4 => ?_) (fun c4 => ?_)
  · have k := k.1 c4
    refine Z_iconst (v := (-1)) hC dX9_forgets_27 rfl ?_
    exact Z_iret hC dX9_forgets_28 k.1 k.2
  · have k := k.2 c4
    refine Z_aload_n hC dX9_forgets_8 rfl rfl ?_
    refine Z_bipush (v := 24) hC dX9_forgets_9 rfl ?_
    refine Z_iconst (v := 4) hC dX9_forgets_11 rfl ?_
    refine Z_iload_n hC dX9_forgets_12 rfl rfl ?_
    refine Z_imul hC dX9_forgets_13 ?_
    refine Z_iadd hC dX9_forgets_14 ?_
    refine Z_iconst (v := 3) hC dX9_forgets_15 rfl ?_
    refine Z_iadd hC dX9_forgets_16 ?_
    refine Z_iconst (v := 0) hC dX9_forgets_17 rfl ?_
    obtain ⟨r6, s5, h7, k⟩ := k
    refine Z_callV (As := [.int ((24 + (4 * x1)) + 3), .int 0]) (rest := []) hC h7 cvX9_232 ⟨9, rfl, zs_9, _, rfl, rfl⟩ rfl rfl (Nat.le_of_ble_eq_true rfl) dX9_forgets_18 ?_
    obtain ⟨r9, s8, h10, k⟩ := k
    refine Z_callS (As := [.int r6]) (rest := []) hC h10 csX9_237 rfl rfl (Nat.le_of_ble_eq_true rfl) dX9_forgets_21 ?_
    refine Z_goto (tgt := 28) hC dX9_forgets_24 (by decide) ?_
    exact Z_iret hC dX9_forgets_28 k.1 k.2
theorem eX9_forgets {x1 : Int32} {X : Option Value} {Y : ZS} {s : ZS} (k : (∃ (r2 : Int32) (s1 : ZS), Ev l ad D ia d mX9_isReader [.ref (ad 20 0), .int x1] s (some (.int r2)) s1 ∧ ((r2 = 0 → (X = some (.int ((-1))) ∧ Y = s1)) ∧ (¬ r2 = 0 → (∃ (r6 : Int32) (s5 : ZS), Ev l ad D ia d mX9_becomes [.ref (ad 20 0), .int ((24 + (4 * x1)) + 3), .int 0] s1 (some (.int r6)) s5 ∧ (∃ (r9 : Int32) (s8 : ZS), Ev l ad D ia d mX9_bitsOf [.int r6] s5 (some (.int r9)) s8 ∧ (X = some (.int r9) ∧ Y = s8))))))) : Ev l ad D ia (d + 1) mX9_forgets [.ref (ad 20 0), .int x1] s X Y :=
  Ev.start (by decide +kernel) (Nat.le_of_ble_eq_true rfl) (fun C hC => bX9_forgets_0  hC k)
set_option maxRecDepth 100000 in
set_option maxHeartbeats 4000000 in
theorem bX9_fetch_0 {x1 : Int32} {x2 : Int32} {C : ZC} {X : Option Value} {Y : ZS} {s : ZS} (hC : Zok ad D ia C (d + 1) cX9_fetch 3 RX9 (some .int)) (k : (∃ (r2 : Int32) (s1 : ZS), Ev l ad D ia d mX9_isReader [.ref (ad 20 0), .int x1] s (some (.int r2)) s1 ∧ ((r2 = 0 → (X = some (.int ((-1))) ∧ Y = s1)) ∧ (¬ r2 = 0 → (∃ (r6 : Int32) (s5 : ZS), Ev l ad D ia d mX9_isBook [.ref (ad 20 0), .int x2] s1 (some (.int r6)) s5 ∧ ((¬ r6 = 0 → (∃ s9 : ZS, Ev l ad D ia d mX9_starts [.ref (ad 20 0)] s5 none s9 ∧ (∃ (r12 : Int32) (s11 : ZS), Ev l ad D ia d mX9_had [.ref (ad 20 0), .int x1, .int x2] s9 (some (.int r12)) s11 ∧ ((r12 = 0 → (∃ s15 : ZS, Ev l ad D ia d mX9_startsCounting [.ref (ad 20 0)] s11 none s15 ∧ (∃ s17 : ZS, Ev l ad D ia d mX9_fetches [.ref (ad 20 0), .int x1, .int x2] s15 none s17 ∧ (vp_in 41 62 ∧ ((((s17 20).2.2 1 (41 : Int32).toNatClampNeg) ≤ 9999 → (∃ s21 : ZS, Ev l ad D ia d mX9_settles [.ref (ad 20 0)] s17 none s21 ∧ (X = some (.int ((s21 20).1 19)) ∧ Y = s21))) ∧ (¬ ((s17 20).2.2 1 (41 : Int32).toNatClampNeg) ≤ 9999 → (X = some (.int ((-3))) ∧ Y = s17))))))) ∧ (¬ r12 = 0 → (X = some (.int ((-2))) ∧ Y = s11)))))) ∧ (r6 = 0 → (X = some (.int ((-1))) ∧ Y = s5)))))))) : Z l ad D ia C X Y 0 [(0, .ref (ad 20 0)), (1, .int x1), (2, .int x2)] [] s := by
  refine Z_aload_n hC dX9_fetch_0 rfl rfl ?_
  refine Z_iload_n hC dX9_fetch_1 rfl rfl ?_
  obtain ⟨r2, s1, h3, k⟩ := k
  refine Z_callV (As := [.int x1]) (rest := []) hC h3 cvX9_216 ⟨9, rfl, zs_9, _, rfl, rfl⟩ rfl rfl (Nat.le_of_ble_eq_true rfl) dX9_fetch_2 ?_
  refine Z_if_eq (tgt := 16) hC dX9_fetch_5 (by decide) (fun c4 => ?_) (fun c4 => ?_)
  · have k := k.1 c4
    refine Z_iconst (v := (-1)) hC dX9_fetch_16 rfl ?_
    exact Z_iret hC dX9_fetch_17 k.1 k.2
  · have k := k.2 c4
    refine Z_aload_n hC dX9_fetch_8 rfl rfl ?_
    refine Z_iload_n hC dX9_fetch_9 rfl rfl ?_
    obtain ⟨r6, s5, h7, k⟩ := k
    refine Z_callV (As := [.int x2]) (rest := []) hC h7 cvX9_210 ⟨9, rfl, zs_9, _, rfl, rfl⟩ rfl rfl (Nat.le_of_ble_eq_true rfl) dX9_fetch_10 ?_
    refine Z_if_ne (tgt := 18) hC dX9_fetch_13 (by decide) (fun c8 => ?_) (fun c8 => ?_)
    · have k := k.1 c8
      refine Z_aload_n hC dX9_fetch_18 rfl rfl ?_
      obtain ⟨s9, h10, k⟩ := k
      refine Z_callV (As := []) (rest := []) hC h10 cvX9_204 ⟨9, rfl, zs_9, _, rfl, rfl⟩ rfl rfl (Nat.le_of_ble_eq_true rfl) dX9_fetch_19 ?_
      refine Z_aload_n hC dX9_fetch_22 rfl rfl ?_
      refine Z_iload_n hC dX9_fetch_23 rfl rfl ?_
      refine Z_iload_n hC dX9_fetch_24 rfl rfl ?_
      obtain ⟨r12, s11, h13, k⟩ := k
      refine Z_callV (As := [.int x1, .int x2]) (rest := []) hC h13 cvX9_181 ⟨9, rfl, zs_9, _, rfl, rfl⟩ rfl rfl (Nat.le_of_ble_eq_true rfl) dX9_fetch_25 ?_
      refine Z_if_eq (tgt := 34) hC dX9_fetch_28 (by decide) (fun c14 => ?_) (fun c14 => ?_)
      · have k := k.1 c14
        refine Z_aload_n hC dX9_fetch_34 rfl rfl ?_
        obtain ⟨s15, h16, k⟩ := k
        refine Z_callV (As := []) (rest := []) hC h16 cvX9_194 ⟨9, rfl, zs_9, _, rfl, rfl⟩ rfl rfl (Nat.le_of_ble_eq_true rfl) dX9_fetch_35 ?_
        refine Z_aload_n hC dX9_fetch_38 rfl rfl ?_
        refine Z_iload_n hC dX9_fetch_39 rfl rfl ?_
        refine Z_iload_n hC dX9_fetch_40 rfl rfl ?_
        obtain ⟨s17, h18, k⟩ := k
        refine Z_callV (As := [.int x1, .int x2]) (rest := []) hC h18 cvX9_187 ⟨9, rfl, zs_9, _, rfl, rfl⟩ rfl rfl (Nat.le_of_ble_eq_true rfl) dX9_fetch_41 ?_
        refine Z_aload_n hC dX9_fetch_44 rfl rfl ?_
        refine Z_get (o := 20) (c := 9) (k := 1) (v := .ref (ad 20 2)) hC rfl zs_9 lkX9_13 rfl dX9_fetch_45 ?_
        refine Z_bipush (v := 41) hC dX9_fetch_48 rfl ?_
        obtain ⟨h19, k⟩ := k
        refine Z_iald (o := 20) (k := 1) hC (zis_of rfl rfl) h19 dX9_fetch_50 ?_
        refine Z_sipush (v := 9999) hC dX9_fetch_51 rfl ?_
        refine Z_icmp_le (tgt := 60) hC dX9_fetch_54 (by decide) (fun c20 => ?_) (fun c20 => ?_)
        · have k := k.1 c20
          refine Z_aload_n hC dX9_fetch_60 rfl rfl ?_
          obtain ⟨s21, h22, k⟩ := k
          refine Z_callV (As := []) (rest := []) hC h22 cvX9_240 ⟨9, rfl, zs_9, _, rfl, rfl⟩ rfl rfl (Nat.le_of_ble_eq_true rfl) dX9_fetch_61 ?_
          refine Z_aload_n hC dX9_fetch_64 rfl rfl ?_
          refine Z_get (o := 20) (c := 9) (k := 19) (v := .int ((s21 20).1 19)) hC rfl zs_9 lkX9_165 rfl dX9_fetch_65 ?_
          exact Z_iret hC dX9_fetch_68 k.1 k.2
        · have k := k.2 c20
          refine Z_bipush (v := (-3)) hC dX9_fetch_57 rfl ?_
          exact Z_iret hC dX9_fetch_59 k.1 k.2
      · have k := k.2 c14
        refine Z_bipush (v := (-2)) hC dX9_fetch_31 rfl ?_
        exact Z_iret hC dX9_fetch_33 k.1 k.2
    · have k := k.2 c8
      refine Z_iconst (v := (-1)) hC dX9_fetch_16 rfl ?_
      exact Z_iret hC dX9_fetch_17 k.1 k.2
theorem eX9_fetch {x1 : Int32} {x2 : Int32} {X : Option Value} {Y : ZS} {s : ZS} (k : (∃ (r2 : Int32) (s1 : ZS), Ev l ad D ia d mX9_isReader [.ref (ad 20 0), .int x1] s (some (.int r2)) s1 ∧ ((r2 = 0 → (X = some (.int ((-1))) ∧ Y = s1)) ∧ (¬ r2 = 0 → (∃ (r6 : Int32) (s5 : ZS), Ev l ad D ia d mX9_isBook [.ref (ad 20 0), .int x2] s1 (some (.int r6)) s5 ∧ ((¬ r6 = 0 → (∃ s9 : ZS, Ev l ad D ia d mX9_starts [.ref (ad 20 0)] s5 none s9 ∧ (∃ (r12 : Int32) (s11 : ZS), Ev l ad D ia d mX9_had [.ref (ad 20 0), .int x1, .int x2] s9 (some (.int r12)) s11 ∧ ((r12 = 0 → (∃ s15 : ZS, Ev l ad D ia d mX9_startsCounting [.ref (ad 20 0)] s11 none s15 ∧ (∃ s17 : ZS, Ev l ad D ia d mX9_fetches [.ref (ad 20 0), .int x1, .int x2] s15 none s17 ∧ (vp_in 41 62 ∧ ((((s17 20).2.2 1 (41 : Int32).toNatClampNeg) ≤ 9999 → (∃ s21 : ZS, Ev l ad D ia d mX9_settles [.ref (ad 20 0)] s17 none s21 ∧ (X = some (.int ((s21 20).1 19)) ∧ Y = s21))) ∧ (¬ ((s17 20).2.2 1 (41 : Int32).toNatClampNeg) ≤ 9999 → (X = some (.int ((-3))) ∧ Y = s17))))))) ∧ (¬ r12 = 0 → (X = some (.int ((-2))) ∧ Y = s11)))))) ∧ (r6 = 0 → (X = some (.int ((-1))) ∧ Y = s5)))))))) : Ev l ad D ia (d + 1) mX9_fetch [.ref (ad 20 0), .int x1, .int x2] s X Y :=
  Ev.start (by decide +kernel) (Nat.le_of_ble_eq_true rfl) (fun C hC => bX9_fetch_0  hC k)
set_option maxRecDepth 100000 in
set_option maxHeartbeats 4000000 in
theorem bX9_days_0 {x1 : Int32} {C : ZC} {X : Option Value} {Y : ZS} {s : ZS} (hC : Zok ad D ia C (d + 1) cX9_days 2 RX9 (some .int)) (k : (∃ (r2 : Int32) (s1 : ZS), Ev l ad D ia d mX9_in [.long x1.toInt64, .long 0, .long ((30))] s (some (.int r2)) s1 ∧ ((¬ r2 = 0 → (∃ s5 : ZS, Ev l ad D ia d mX9_starts [.ref (ad 20 0)] s1 none s5 ∧ (∃ s7 : ZS, Ev l ad D ia d mX9_daysGo [.ref (ad 20 0), .int x1] s5 none s7 ∧ (vp_in 42 62 ∧ ((999 < ((s7 20).2.2 1 (42 : Int32).toNatClampNeg) → (X = some (.int ((-3))) ∧ Y = s7)) ∧ (¬ 999 < ((s7 20).2.2 1 (42 : Int32).toNatClampNeg) → (vp_in 41 62 ∧ ((((s7 20).2.2 1 (41 : Int32).toNatClampNeg) ≤ 9999 → (∃ s13 : ZS, Ev l ad D ia d mX9_settles [.ref (ad 20 0)] s7 none s13 ∧ (X = some (.int ((s13 20).1 18)) ∧ Y = s13))) ∧ (¬ ((s7 20).2.2 1 (41 : Int32).toNatClampNeg) ≤ 9999 → (X = some (.int ((-3))) ∧ Y = s7)))))))))) ∧ (r2 = 0 → (X = some (.int ((-1))) ∧ Y = s1))))) : Z l ad D ia C X Y 0 [(0, .ref (ad 20 0)), (1, .int x1)] [] s := by
  refine Z_iload_n hC dX9_days_0 rfl rfl ?_
  refine Z_i2l hC dX9_days_1 ?_
  refine Z_lconst (v := 0) hC dX9_days_2 rfl ?_
  refine Z_ldc2 hC clX9_243 dX9_days_3 ?_
  obtain ⟨r2, s1, h3, k⟩ := k
  refine Z_callS (As := [.long x1.toInt64, .long 0, .long ((30))]) (rest := []) hC h3 csX9_78 rfl rfl (Nat.le_of_ble_eq_true rfl) dX9_days_6 ?_
  refine Z_if_ne (tgt := 14) hC dX9_days_9 (by decide) (fun c4 => ?_) (fun c4 => ?_)
  · have k := k.1 c4
    refine Z_aload_n hC dX9_days_14 rfl rfl ?_
    obtain ⟨s5, h6, k⟩ := k
    refine Z_callV (As := []) (rest := []) hC h6 cvX9_204 ⟨9, rfl, zs_9, _, rfl, rfl⟩ rfl rfl (Nat.le_of_ble_eq_true rfl) dX9_days_15 ?_
    refine Z_aload_n hC dX9_days_18 rfl rfl ?_
    refine Z_iload_n hC dX9_days_19 rfl rfl ?_
    obtain ⟨s7, h8, k⟩ := k
    refine Z_callV (As := [.int x1]) (rest := []) hC h8 cvX9_245 ⟨9, rfl, zs_9, _, rfl, rfl⟩ rfl rfl (Nat.le_of_ble_eq_true rfl) dX9_days_20 ?_
    refine Z_aload_n hC dX9_days_23 rfl rfl ?_
    refine Z_get (o := 20) (c := 9) (k := 1) (v := .ref (ad 20 2)) hC rfl zs_9 lkX9_13 rfl dX9_days_24 ?_
    refine Z_bipush (v := 42) hC dX9_days_27 rfl ?_
    obtain ⟨h9, k⟩ := k
    refine Z_iald (o := 20) (k := 1) hC (zis_of rfl rfl) h9 dX9_days_29 ?_
    refine Z_sipush (v := 999) hC dX9_days_30 rfl ?_
    refine Z_icmp_gt (tgt := 49) hC dX9_days_33 (by decide) (fun c10 => ?_) (fun c10 => ?_)
    · have k := k.1 c10
      refine Z_bipush (v := (-3)) hC dX9_days_49 rfl ?_
      exact Z_iret hC dX9_days_51 k.1 k.2
    · have k := k.2 c10
      refine Z_aload_n hC dX9_days_36 rfl rfl ?_
      refine Z_get (o := 20) (c := 9) (k := 1) (v := .ref (ad 20 2)) hC rfl zs_9 lkX9_13 rfl dX9_days_37 ?_
      refine Z_bipush (v := 41) hC dX9_days_40 rfl ?_
      obtain ⟨h11, k⟩ := k
      refine Z_iald (o := 20) (k := 1) hC (zis_of rfl rfl) h11 dX9_days_42 ?_
      refine Z_sipush (v := 9999) hC dX9_days_43 rfl ?_
      refine Z_icmp_le (tgt := 52) hC dX9_days_46 (by decide) (fun c12 => ?_) (fun c12 => ?_)
      · have k := k.1 c12
        refine Z_aload_n hC dX9_days_52 rfl rfl ?_
        obtain ⟨s13, h14, k⟩ := k
        refine Z_callV (As := []) (rest := []) hC h14 cvX9_240 ⟨9, rfl, zs_9, _, rfl, rfl⟩ rfl rfl (Nat.le_of_ble_eq_true rfl) dX9_days_53 ?_
        refine Z_aload_n hC dX9_days_56 rfl rfl ?_
        refine Z_get (o := 20) (c := 9) (k := 18) (v := .int ((s13 20).1 18)) hC rfl zs_9 lkX9_162 rfl dX9_days_57 ?_
        exact Z_iret hC dX9_days_60 k.1 k.2
      · have k := k.2 c12
        refine Z_bipush (v := (-3)) hC dX9_days_49 rfl ?_
        exact Z_iret hC dX9_days_51 k.1 k.2
  · have k := k.2 c4
    refine Z_iconst (v := (-1)) hC dX9_days_12 rfl ?_
    exact Z_iret hC dX9_days_13 k.1 k.2
theorem eX9_days {x1 : Int32} {X : Option Value} {Y : ZS} {s : ZS} (k : (∃ (r2 : Int32) (s1 : ZS), Ev l ad D ia d mX9_in [.long x1.toInt64, .long 0, .long ((30))] s (some (.int r2)) s1 ∧ ((¬ r2 = 0 → (∃ s5 : ZS, Ev l ad D ia d mX9_starts [.ref (ad 20 0)] s1 none s5 ∧ (∃ s7 : ZS, Ev l ad D ia d mX9_daysGo [.ref (ad 20 0), .int x1] s5 none s7 ∧ (vp_in 42 62 ∧ ((999 < ((s7 20).2.2 1 (42 : Int32).toNatClampNeg) → (X = some (.int ((-3))) ∧ Y = s7)) ∧ (¬ 999 < ((s7 20).2.2 1 (42 : Int32).toNatClampNeg) → (vp_in 41 62 ∧ ((((s7 20).2.2 1 (41 : Int32).toNatClampNeg) ≤ 9999 → (∃ s13 : ZS, Ev l ad D ia d mX9_settles [.ref (ad 20 0)] s7 none s13 ∧ (X = some (.int ((s13 20).1 18)) ∧ Y = s13))) ∧ (¬ ((s7 20).2.2 1 (41 : Int32).toNatClampNeg) ≤ 9999 → (X = some (.int ((-3))) ∧ Y = s7)))))))))) ∧ (r2 = 0 → (X = some (.int ((-1))) ∧ Y = s1))))) : Ev l ad D ia (d + 1) mX9_days [.ref (ad 20 0), .int x1] s X Y :=
  Ev.start (by decide +kernel) (Nat.le_of_ble_eq_true rfl) (fun C hC => bX9_days_0  hC k)
set_option maxRecDepth 100000 in
set_option maxHeartbeats 4000000 in
theorem bX9_isFar_0 {x0 : Int32} {C : ZC} {X : Option Value} {Y : ZS} {s : ZS} (hC : Zok ad D ia C (d + 1) cX9_isFar 1 RX9 (some .boolean)) (k : (∃ (r2 : Int32) (s1 : ZS), Ev l ad D ia d mX9_in [.long x0.toInt64, .long 0, .long ((60))] s (some (.int r2)) s1 ∧ (narrow .boolean (.int r2) = .int r2 ∧ X = some (.int r2) ∧ Y = s1))) : Z l ad D ia C X Y 0 [(0, .int x0)] [] s := by
  refine Z_iload_n hC dX9_isFar_0 rfl rfl ?_
  refine Z_i2l hC dX9_isFar_1 ?_
  refine Z_lconst (v := 0) hC dX9_isFar_2 rfl ?_
  refine Z_ldc2 hC clX9_248 dX9_isFar_3 ?_
  obtain ⟨r2, s1, h3, k⟩ := k
  refine Z_callS (As := [.long x0.toInt64, .long 0, .long ((60))]) (rest := []) hC h3 csX9_78 rfl rfl (Nat.le_of_ble_eq_true rfl) dX9_isFar_6 ?_
  exact Z_zret hC dX9_isFar_9 k.1 k.2.1 k.2.2
theorem eX9_isFar {x0 : Int32} {X : Option Value} {Y : ZS} {s : ZS} (k : (∃ (r2 : Int32) (s1 : ZS), Ev l ad D ia d mX9_in [.long x0.toInt64, .long 0, .long ((60))] s (some (.int r2)) s1 ∧ (narrow .boolean (.int r2) = .int r2 ∧ X = some (.int r2) ∧ Y = s1))) : Ev l ad D ia (d + 1) mX9_isFar [.int x0] s X Y :=
  Ev.start (by decide +kernel) (Nat.le_of_ble_eq_true rfl) (fun C hC => bX9_isFar_0  hC k)
set_option maxRecDepth 100000 in
set_option maxHeartbeats 4000000 in
theorem bX9_runs_0 {x1 : Int32} {x2 : Int32} {C : ZC} {X : Option Value} {Y : ZS} {s : ZS} (hC : Zok ad D ia C (d + 1) cX9_runs 5 RX9 (some .int)) (k : (∃ (r2 : Int32) (s1 : ZS), Ev l ad D ia d mX9_isFar [.int x1] s (some (.int r2)) s1 ∧ ((r2 = 0 → (X = some (.int ((-1))) ∧ Y = s1)) ∧ (¬ r2 = 0 → (∃ (r6 : Int32) (s5 : ZS), Ev l ad D ia d mX9_in [.long x2.toInt64, .long 0, .long ((3))] s1 (some (.int r6)) s5 ∧ ((¬ r6 = 0 → (∃ s9 : ZS, Ev l ad D ia d mX9_starts [.ref (ad 20 0)] s5 none s9 ∧ (∃ s11 : ZS, Ev l ad D ia d mX9_startsCounting [.ref (ad 20 0)] s9 none s11 ∧ Z l ad D ia C X Y 35 [(0, .ref (ad 20 0)), (1, .int x1), (2, .int x2), (3, .int ((-4))), (4, .int 0)] [] s11))) ∧ (r6 = 0 → (X = some (.int ((-1))) ∧ Y = s5)))))))) : Z l ad D ia C X Y 0 [(0, .ref (ad 20 0)), (1, .int x1), (2, .int x2)] [] s := by
  refine Z_iload_n hC dX9_runs_0 rfl rfl ?_
  obtain ⟨r2, s1, h3, k⟩ := k
  refine Z_callS (As := [.int x1]) (rest := []) hC h3 csX9_250 rfl rfl (Nat.le_of_ble_eq_true rfl) dX9_runs_1 ?_
  refine Z_if_eq (tgt := 19) hC dX9_runs_4 (by decide) (fun c4 => ?_) (fun c4 => ?_)
  · have k := k.1 c4
    refine Z_iconst (v := (-1)) hC dX9_runs_19 rfl ?_
    exact Z_iret hC dX9_runs_20 k.1 k.2
  · have k := k.2 c4
    refine Z_iload_n hC dX9_runs_7 rfl rfl ?_
    refine Z_i2l hC dX9_runs_8 ?_
    refine Z_lconst (v := 0) hC dX9_runs_9 rfl ?_
    refine Z_ldc2 hC clX9_214 dX9_runs_10 ?_
    obtain ⟨r6, s5, h7, k⟩ := k
    refine Z_callS (As := [.long x2.toInt64, .long 0, .long ((3))]) (rest := []) hC h7 csX9_78 rfl rfl (Nat.le_of_ble_eq_true rfl) dX9_runs_13 ?_
    refine Z_if_ne (tgt := 21) hC dX9_runs_16 (by decide) (fun c8 => ?_) (fun c8 => ?_)
    · have k := k.1 c8
      refine Z_bipush (v := (-4)) hC dX9_runs_21 rfl ?_
      refine Z_istore_n (V2 := [(3, .int ((-4))), (0, .ref (ad 20 0)), (1, .int x1), (2, .int x2)]) hC dX9_runs_23 rfl (by decide) rfl ?_
      refine Z_aload_n hC dX9_runs_24 rfl rfl ?_
      obtain ⟨s9, h10, k⟩ := k
      refine Z_callV (As := []) (rest := []) hC h10 cvX9_204 ⟨9, rfl, zs_9, _, rfl, rfl⟩ rfl rfl (Nat.le_of_ble_eq_true rfl) dX9_runs_25 ?_
      refine Z_aload_n hC dX9_runs_28 rfl rfl ?_
      obtain ⟨s11, h12, k⟩ := k
      refine Z_callV (As := []) (rest := []) hC h12 cvX9_194 ⟨9, rfl, zs_9, _, rfl, rfl⟩ rfl rfl (Nat.le_of_ble_eq_true rfl) dX9_runs_29 ?_
      refine Z_iconst (v := 0) hC dX9_runs_32 rfl ?_
      refine Z_istore (V2 := [(4, .int 0), (3, .int ((-4))), (0, .ref (ad 20 0)), (1, .int x1), (2, .int x2)]) hC dX9_runs_33 (by decide) rfl ?_
      exact Z_pick [2, 3, 4, 1, 0] rfl k
    · have k := k.2 c8
      refine Z_iconst (v := (-1)) hC dX9_runs_19 rfl ?_
      exact Z_iret hC dX9_runs_20 k.1 k.2
theorem eX9_runs {x1 : Int32} {x2 : Int32} {X : Option Value} {Y : ZS} {s : ZS} (k : ∀ C : ZC, Zok ad D ia C (d + 1) cX9_runs 5 RX9 (some .int) → (∃ (r2 : Int32) (s1 : ZS), Ev l ad D ia d mX9_isFar [.int x1] s (some (.int r2)) s1 ∧ ((r2 = 0 → (X = some (.int ((-1))) ∧ Y = s1)) ∧ (¬ r2 = 0 → (∃ (r6 : Int32) (s5 : ZS), Ev l ad D ia d mX9_in [.long x2.toInt64, .long 0, .long ((3))] s1 (some (.int r6)) s5 ∧ ((¬ r6 = 0 → (∃ s9 : ZS, Ev l ad D ia d mX9_starts [.ref (ad 20 0)] s5 none s9 ∧ (∃ s11 : ZS, Ev l ad D ia d mX9_startsCounting [.ref (ad 20 0)] s9 none s11 ∧ Z l ad D ia C X Y 35 [(0, .ref (ad 20 0)), (1, .int x1), (2, .int x2), (3, .int ((-4))), (4, .int 0)] [] s11))) ∧ (r6 = 0 → (X = some (.int ((-1))) ∧ Y = s5)))))))) : Ev l ad D ia (d + 1) mX9_runs [.ref (ad 20 0), .int x1, .int x2] s X Y :=
  Ev.start (by decide +kernel) (Nat.le_of_ble_eq_true rfl) (fun C hC => bX9_runs_0  hC (k C hC))
set_option maxRecDepth 100000 in
set_option maxHeartbeats 4000000 in
theorem bX9_runs_35 {x1 : Int32} {x2 : Int32} {x3 : Int32} {x4 : Int32} {C : ZC} {X : Option Value} {Y : ZS} {s : ZS} (hC : Zok ad D ia C (d + 1) cX9_runs 5 RX9 (some .int)) (k : ((x1 < x4 → ((¬ x2 = 0 → ((¬ x2 = 1 → ((¬ x2 = 2 → (X = some (.int x3) ∧ Y = s)) ∧ (x2 = 2 → (X = some (.int ((s 20).1 20)) ∧ Y = s)))) ∧ (x2 = 1 → (X = some (.int ((s 20).1 19)) ∧ Y = s)))) ∧ (x2 = 0 → (X = some (.int ((s 20).1 18)) ∧ Y = s)))) ∧ (¬ x1 < x4 → ((¬ x3 = ((-4)) → ((x1 ≤ x4 → Z l ad D ia C X Y 35 [(0, .ref (ad 20 0)), (1, .int x1), (2, .int x2), (3, .int x3), (4, .int (x4 + 1))] [] s) ∧ (¬ x1 ≤ x4 → (∃ s7 : ZS, Ev l ad D ia d mX9_dayGoes [.ref (ad 20 0)] s none s7 ∧ Z l ad D ia C X Y 35 [(0, .ref (ad 20 0)), (1, .int x1), (2, .int x2), (3, .int x3), (4, .int (x4 + 1))] [] s7)))) ∧ (x3 = ((-4)) → (∃ (r10 : Int32) (s9 : ZS), Ev l ad D ia d mX9_doneNow [.ref (ad 20 0)] s (some (.int r10)) s9 ∧ ((¬ r10 = ((1 <<< (((s9 20).1 4) &&& 31)) - 1) → ((x1 ≤ x4 → Z l ad D ia C X Y 35 [(0, .ref (ad 20 0)), (1, .int x1), (2, .int x2), (3, .int x3), (4, .int (x4 + 1))] [] s9) ∧ (¬ x1 ≤ x4 → (∃ s14 : ZS, Ev l ad D ia d mX9_dayGoes [.ref (ad 20 0)] s9 none s14 ∧ Z l ad D ia C X Y 35 [(0, .ref (ad 20 0)), (1, .int x1), (2, .int x2), (3, .int x3), (4, .int (x4 + 1))] [] s14)))) ∧ (r10 = ((1 <<< (((s9 20).1 4) &&& 31)) - 1) → ((x1 ≤ x4 → Z l ad D ia C X Y 35 [(0, .ref (ad 20 0)), (1, .int x1), (2, .int x2), (3, .int x4), (4, .int (x4 + 1))] [] s9) ∧ (¬ x1 ≤ x4 → (∃ s17 : ZS, Ev l ad D ia d mX9_dayGoes [.ref (ad 20 0)] s9 none s17 ∧ Z l ad D ia C X Y 35 [(0, .ref (ad 20 0)), (1, .int x1), (2, .int x2), (3, .int x4), (4, .int (x4 + 1))] [] s17))))))))))) : Z l ad D ia C X Y 35 [(0, .ref (ad 20 0)), (1, .int x1), (2, .int x2), (3, .int x3), (4, .int x4)] [] s := by
  refine Z_iload hC dX9_runs_35 rfl ?_
  refine Z_iload_n hC dX9_runs_37 rfl rfl ?_
  refine Z_icmp_gt (tgt := 85) hC dX9_runs_38 (by decide) (fun c1 => ?_) (fun c1 => ?_)
  · have k := k.1 c1
    refine Z_iload_n hC dX9_runs_85 rfl rfl ?_
    refine Z_if_ne (tgt := 96) hC dX9_runs_86 (by decide) (fun c2 => ?_) (fun c2 => ?_)
    · have k := k.1 c2
      refine Z_iload_n hC dX9_runs_96 rfl rfl ?_
      refine Z_iconst (v := 1) hC dX9_runs_97 rfl ?_
      refine Z_icmp_ne (tgt := 108) hC dX9_runs_98 (by decide) (fun c3 => ?_) (fun c3 => ?_)
      · have k := k.1 c3
        refine Z_iload_n hC dX9_runs_108 rfl rfl ?_
        refine Z_iconst (v := 2) hC dX9_runs_109 rfl ?_
        refine Z_icmp_ne (tgt := 120) hC dX9_runs_110 (by decide) (fun c4 => ?_) (fun c4 => ?_)
        · have k := k.1 c4
          refine Z_iload_n hC dX9_runs_120 rfl rfl ?_
          exact Z_iret hC dX9_runs_121 k.1 k.2
        · have k := k.2 c4
          refine Z_aload_n hC dX9_runs_113 rfl rfl ?_
          refine Z_get (o := 20) (c := 9) (k := 20) (v := .int ((s 20).1 20)) hC rfl zs_9 lkX9_168 rfl dX9_runs_114 ?_
          refine Z_goto (tgt := 121) hC dX9_runs_117 (by decide) ?_
          exact Z_iret hC dX9_runs_121 k.1 k.2
      · have k := k.2 c3
        refine Z_aload_n hC dX9_runs_101 rfl rfl ?_
        refine Z_get (o := 20) (c := 9) (k := 19) (v := .int ((s 20).1 19)) hC rfl zs_9 lkX9_165 rfl dX9_runs_102 ?_
        refine Z_goto (tgt := 121) hC dX9_runs_105 (by decide) ?_
        exact Z_iret hC dX9_runs_121 k.1 k.2
    · have k := k.2 c2
      refine Z_aload_n hC dX9_runs_89 rfl rfl ?_
      refine Z_get (o := 20) (c := 9) (k := 18) (v := .int ((s 20).1 18)) hC rfl zs_9 lkX9_162 rfl dX9_runs_90 ?_
      refine Z_goto (tgt := 121) hC dX9_runs_93 (by decide) ?_
      exact Z_iret hC dX9_runs_121 k.1 k.2
  · have k := k.2 c1
    refine Z_iload_n hC dX9_runs_41 rfl rfl ?_
    refine Z_bipush (v := (-4)) hC dX9_runs_42 rfl ?_
    refine Z_icmp_ne (tgt := 67) hC dX9_runs_44 (by decide) (fun c5 => ?_) (fun c5 => ?_)
    · have k := k.1 c5
      refine Z_iload_n hC dX9_runs_67 rfl rfl ?_
      refine Z_istore_n (V2 := [(3, .int x3), (0, .ref (ad 20 0)), (1, .int x1), (2, .int x2), (4, .int x4)]) hC dX9_runs_68 rfl (by decide) rfl ?_
      refine Z_iload hC dX9_runs_69 rfl ?_
      refine Z_iload_n hC dX9_runs_71 rfl rfl ?_
      refine Z_icmp_ge (tgt := 79) hC dX9_runs_72 (by decide) (fun c6 => ?_) (fun c6 => ?_)
      · have k := k.1 c6
        refine Z_iinc (v := x4 + 1) (V2 := [(4, .int (x4 + 1)), (3, .int x3), (0, .ref (ad 20 0)), (1, .int x1), (2, .int x2)]) hC dX9_runs_79 rfl rfl (by decide) rfl ?_
        refine Z_goto (tgt := 35) hC dX9_runs_82 (by decide) ?_
        exact Z_pick [2, 3, 4, 1, 0] rfl k
      · have k := k.2 c6
        refine Z_aload_n hC dX9_runs_75 rfl rfl ?_
        obtain ⟨s7, h8, k⟩ := k
        refine Z_callV (As := []) (rest := []) hC h8 cvX9_197 ⟨9, rfl, zs_9, _, rfl, rfl⟩ rfl rfl (Nat.le_of_ble_eq_true rfl) dX9_runs_76 ?_
        refine Z_iinc (v := x4 + 1) (V2 := [(4, .int (x4 + 1)), (3, .int x3), (0, .ref (ad 20 0)), (1, .int x1), (2, .int x2)]) hC dX9_runs_79 rfl rfl (by decide) rfl ?_
        refine Z_goto (tgt := 35) hC dX9_runs_82 (by decide) ?_
        exact Z_pick [2, 3, 4, 1, 0] rfl k
    · have k := k.2 c5
      refine Z_aload_n hC dX9_runs_47 rfl rfl ?_
      obtain ⟨r10, s9, h11, k⟩ := k
      refine Z_callV (As := []) (rest := []) hC h11 cvX9_207 ⟨9, rfl, zs_9, _, rfl, rfl⟩ rfl rfl (Nat.le_of_ble_eq_true rfl) dX9_runs_48 ?_
      refine Z_iconst (v := 1) hC dX9_runs_51 rfl ?_
      refine Z_aload_n hC dX9_runs_52 rfl rfl ?_
      refine Z_get (o := 20) (c := 9) (k := 4) (v := .int ((s9 20).1 4)) hC rfl zs_9 lkX9_73 rfl dX9_runs_53 ?_
      refine Z_ishl hC dX9_runs_56 ?_
      refine Z_iconst (v := 1) hC dX9_runs_57 rfl ?_
      refine Z_isub hC dX9_runs_58 ?_
      refine Z_icmp_ne (tgt := 67) hC dX9_runs_59 (by decide) (fun c12 => ?_) (fun c12 => ?_)
      · have k := k.1 c12
        refine Z_iload_n hC dX9_runs_67 rfl rfl ?_
        refine Z_istore_n (V2 := [(3, .int x3), (0, .ref (ad 20 0)), (1, .int x1), (2, .int x2), (4, .int x4)]) hC dX9_runs_68 rfl (by decide) rfl ?_
        refine Z_iload hC dX9_runs_69 rfl ?_
        refine Z_iload_n hC dX9_runs_71 rfl rfl ?_
        refine Z_icmp_ge (tgt := 79) hC dX9_runs_72 (by decide) (fun c13 => ?_) (fun c13 => ?_)
        · have k := k.1 c13
          refine Z_iinc (v := x4 + 1) (V2 := [(4, .int (x4 + 1)), (3, .int x3), (0, .ref (ad 20 0)), (1, .int x1), (2, .int x2)]) hC dX9_runs_79 rfl rfl (by decide) rfl ?_
          refine Z_goto (tgt := 35) hC dX9_runs_82 (by decide) ?_
          exact Z_pick [2, 3, 4, 1, 0] rfl k
        · have k := k.2 c13
          refine Z_aload_n hC dX9_runs_75 rfl rfl ?_
          obtain ⟨s14, h15, k⟩ := k
          refine Z_callV (As := []) (rest := []) hC h15 cvX9_197 ⟨9, rfl, zs_9, _, rfl, rfl⟩ rfl rfl (Nat.le_of_ble_eq_true rfl) dX9_runs_76 ?_
          refine Z_iinc (v := x4 + 1) (V2 := [(4, .int (x4 + 1)), (3, .int x3), (0, .ref (ad 20 0)), (1, .int x1), (2, .int x2)]) hC dX9_runs_79 rfl rfl (by decide) rfl ?_
          refine Z_goto (tgt := 35) hC dX9_runs_82 (by decide) ?_
          exact Z_pick [2, 3, 4, 1, 0] rfl k
      · have k := k.2 c12
        refine Z_iload hC dX9_runs_62 rfl ?_
        refine Z_goto (tgt := 68) hC dX9_runs_64 (by decide) ?_
        refine Z_istore_n (V2 := [(3, .int x4), (0, .ref (ad 20 0)), (1, .int x1), (2, .int x2), (4, .int x4)]) hC dX9_runs_68 rfl (by decide) rfl ?_
        refine Z_iload hC dX9_runs_69 rfl ?_
        refine Z_iload_n hC dX9_runs_71 rfl rfl ?_
        refine Z_icmp_ge (tgt := 79) hC dX9_runs_72 (by decide) (fun c16 => ?_) (fun c16 => ?_)
        · have k := k.1 c16
          refine Z_iinc (v := x4 + 1) (V2 := [(4, .int (x4 + 1)), (3, .int x4), (0, .ref (ad 20 0)), (1, .int x1), (2, .int x2)]) hC dX9_runs_79 rfl rfl (by decide) rfl ?_
          refine Z_goto (tgt := 35) hC dX9_runs_82 (by decide) ?_
          exact Z_pick [2, 3, 4, 1, 0] rfl k
        · have k := k.2 c16
          refine Z_aload_n hC dX9_runs_75 rfl rfl ?_
          obtain ⟨s17, h18, k⟩ := k
          refine Z_callV (As := []) (rest := []) hC h18 cvX9_197 ⟨9, rfl, zs_9, _, rfl, rfl⟩ rfl rfl (Nat.le_of_ble_eq_true rfl) dX9_runs_76 ?_
          refine Z_iinc (v := x4 + 1) (V2 := [(4, .int (x4 + 1)), (3, .int x4), (0, .ref (ad 20 0)), (1, .int x1), (2, .int x2)]) hC dX9_runs_79 rfl rfl (by decide) rfl ?_
          refine Z_goto (tgt := 35) hC dX9_runs_82 (by decide) ?_
          exact Z_pick [2, 3, 4, 1, 0] rfl k
set_option maxRecDepth 100000 in
set_option maxHeartbeats 4000000 in
theorem bX9_ahead_0 {x1 : Int32} {x2 : Int32} {x3 : Int32} {C : ZC} {X : Option Value} {Y : ZS} {s : ZS} (hC : Zok ad D ia C (d + 1) cX9_ahead 4 RX9 (some .int)) (k : (∃ (r2 : Int32) (s1 : ZS), Ev l ad D ia d mX9_isReader [.ref (ad 20 0), .int x1] s (some (.int r2)) s1 ∧ ((r2 = 0 → (X = some (.int ((-1))) ∧ Y = s1)) ∧ (¬ r2 = 0 → (∃ (r6 : Int32) (s5 : ZS), Ev l ad D ia d mX9_isFar [.int x2] s1 (some (.int r6)) s5 ∧ ((r6 = 0 → (X = some (.int ((-1))) ∧ Y = s5)) ∧ (¬ r6 = 0 → (∃ (r10 : Int32) (s9 : ZS), Ev l ad D ia d mX9_isPart [.int x3] s5 (some (.int r10)) s9 ∧ ((¬ r10 = 0 → (∃ s13 : ZS, Ev l ad D ia d mX9_starts [.ref (ad 20 0)] s9 none s13 ∧ (∃ s15 : ZS, Ev l ad D ia d mX9_daysGo [.ref (ad 20 0), .int x2] s13 none s15 ∧ ((¬ x3 = 0 → (∃ (r19 : Int32) (s18 : ZS), Ev l ad D ia d mX9_ofReader [.ref (ad 20 0), .int x1, .int 3] s15 (some (.int r19)) s18 ∧ (X = some (.int r19) ∧ Y = s18))) ∧ (x3 = 0 → (∃ (r22 : Int32) (s21 : ZS), Ev l ad D ia d mX9_ofReader [.ref (ad 20 0), .int x1, .int 1] s15 (some (.int r22)) s21 ∧ (X = some (.int r22) ∧ Y = s21))))))) ∧ (r10 = 0 → (X = some (.int ((-1))) ∧ Y = s9))))))))))) : Z l ad D ia C X Y 0 [(0, .ref (ad 20 0)), (1, .int x1), (2, .int x2), (3, .int x3)] [] s := by
  refine Z_aload_n hC dX9_ahead_0 rfl rfl ?_
  refine Z_iload_n hC dX9_ahead_1 rfl rfl ?_
  obtain ⟨r2, s1, h3, k⟩ := k
  refine Z_callV (As := [.int x1]) (rest := []) hC h3 cvX9_216 ⟨9, rfl, zs_9, _, rfl, rfl⟩ rfl rfl (Nat.le_of_ble_eq_true rfl) dX9_ahead_2 ?_
  refine Z_if_eq (tgt := 22) hC dX9_ahead_5 (by decide) (fun c4 => ?_) (fun c4 => ?_)
  · have k := k.1 c4
    refine Z_iconst (v := (-1)) hC dX9_ahead_22 rfl ?_
    exact Z_iret hC dX9_ahead_23 k.1 k.2
  · have k := k.2 c4
    refine Z_iload_n hC dX9_ahead_8 rfl rfl ?_
    obtain ⟨r6, s5, h7, k⟩ := k
    refine Z_callS (As := [.int x2]) (rest := []) hC h7 csX9_250 rfl rfl (Nat.le_of_ble_eq_true rfl) dX9_ahead_9 ?_
    refine Z_if_eq (tgt := 22) hC dX9_ahead_12 (by decide) (fun c8 => ?_) (fun c8 => ?_)
    · have k := k.1 c8
      refine Z_iconst (v := (-1)) hC dX9_ahead_22 rfl ?_
      exact Z_iret hC dX9_ahead_23 k.1 k.2
    · have k := k.2 c8
      refine Z_iload_n hC dX9_ahead_15 rfl rfl ?_
      obtain ⟨r10, s9, h11, k⟩ := k
      refine Z_callS (As := [.int x3]) (rest := []) hC h11 csX9_253 rfl rfl (Nat.le_of_ble_eq_true rfl) dX9_ahead_16 ?_
      refine Z_if_ne (tgt := 24) hC dX9_ahead_19 (by decide) (fun c12 => ?_) (fun c12 => ?_)
      · have k := k.1 c12
        refine Z_aload_n hC dX9_ahead_24 rfl rfl ?_
        obtain ⟨s13, h14, k⟩ := k
        refine Z_callV (As := []) (rest := []) hC h14 cvX9_204 ⟨9, rfl, zs_9, _, rfl, rfl⟩ rfl rfl (Nat.le_of_ble_eq_true rfl) dX9_ahead_25 ?_
        refine Z_aload_n hC dX9_ahead_28 rfl rfl ?_
        refine Z_iload_n hC dX9_ahead_29 rfl rfl ?_
        obtain ⟨s15, h16, k⟩ := k
        refine Z_callV (As := [.int x2]) (rest := []) hC h16 cvX9_245 ⟨9, rfl, zs_9, _, rfl, rfl⟩ rfl rfl (Nat.le_of_ble_eq_true rfl) dX9_ahead_30 ?_
        refine Z_iload_n hC dX9_ahead_33 rfl rfl ?_
        refine Z_if_ne (tgt := 46) hC dX9_ahead_34 (by decide) (fun c17 => ?_) (fun c17 => ?_)
        · have k := k.1 c17
          refine Z_aload_n hC dX9_ahead_46 rfl rfl ?_
          refine Z_iload_n hC dX9_ahead_47 rfl rfl ?_
          refine Z_iconst (v := 3) hC dX9_ahead_48 rfl ?_
          obtain ⟨r19, s18, h20, k⟩ := k
          refine Z_callV (As := [.int x1, .int 3]) (rest := []) hC h20 cvX9_153 ⟨9, rfl, zs_9, _, rfl, rfl⟩ rfl rfl (Nat.le_of_ble_eq_true rfl) dX9_ahead_49 ?_
          exact Z_iret hC dX9_ahead_52 k.1 k.2
        · have k := k.2 c17
          refine Z_aload_n hC dX9_ahead_37 rfl rfl ?_
          refine Z_iload_n hC dX9_ahead_38 rfl rfl ?_
          refine Z_iconst (v := 1) hC dX9_ahead_39 rfl ?_
          obtain ⟨r22, s21, h23, k⟩ := k
          refine Z_callV (As := [.int x1, .int 1]) (rest := []) hC h23 cvX9_153 ⟨9, rfl, zs_9, _, rfl, rfl⟩ rfl rfl (Nat.le_of_ble_eq_true rfl) dX9_ahead_40 ?_
          refine Z_goto (tgt := 52) hC dX9_ahead_43 (by decide) ?_
          exact Z_iret hC dX9_ahead_52 k.1 k.2
      · have k := k.2 c12
        refine Z_iconst (v := (-1)) hC dX9_ahead_22 rfl ?_
        exact Z_iret hC dX9_ahead_23 k.1 k.2
theorem eX9_ahead {x1 : Int32} {x2 : Int32} {x3 : Int32} {X : Option Value} {Y : ZS} {s : ZS} (k : (∃ (r2 : Int32) (s1 : ZS), Ev l ad D ia d mX9_isReader [.ref (ad 20 0), .int x1] s (some (.int r2)) s1 ∧ ((r2 = 0 → (X = some (.int ((-1))) ∧ Y = s1)) ∧ (¬ r2 = 0 → (∃ (r6 : Int32) (s5 : ZS), Ev l ad D ia d mX9_isFar [.int x2] s1 (some (.int r6)) s5 ∧ ((r6 = 0 → (X = some (.int ((-1))) ∧ Y = s5)) ∧ (¬ r6 = 0 → (∃ (r10 : Int32) (s9 : ZS), Ev l ad D ia d mX9_isPart [.int x3] s5 (some (.int r10)) s9 ∧ ((¬ r10 = 0 → (∃ s13 : ZS, Ev l ad D ia d mX9_starts [.ref (ad 20 0)] s9 none s13 ∧ (∃ s15 : ZS, Ev l ad D ia d mX9_daysGo [.ref (ad 20 0), .int x2] s13 none s15 ∧ ((¬ x3 = 0 → (∃ (r19 : Int32) (s18 : ZS), Ev l ad D ia d mX9_ofReader [.ref (ad 20 0), .int x1, .int 3] s15 (some (.int r19)) s18 ∧ (X = some (.int r19) ∧ Y = s18))) ∧ (x3 = 0 → (∃ (r22 : Int32) (s21 : ZS), Ev l ad D ia d mX9_ofReader [.ref (ad 20 0), .int x1, .int 1] s15 (some (.int r22)) s21 ∧ (X = some (.int r22) ∧ Y = s21))))))) ∧ (r10 = 0 → (X = some (.int ((-1))) ∧ Y = s9))))))))))) : Ev l ad D ia (d + 1) mX9_ahead [.ref (ad 20 0), .int x1, .int x2, .int x3] s X Y :=
  Ev.start (by decide +kernel) (Nat.le_of_ble_eq_true rfl) (fun C hC => bX9_ahead_0  hC k)
set_option maxRecDepth 100000 in
set_option maxHeartbeats 4000000 in
theorem bX9_daysTo_0 {x1 : Int32} {C : ZC} {X : Option Value} {Y : ZS} {s : ZS} (hC : Zok ad D ia C (d + 1) cX9_daysTo 3 RX9 (some .int)) (k : Z l ad D ia C X Y 2 [(0, .ref (ad 20 0)), (1, .int x1), (2, .int 0)] [] s) : Z l ad D ia C X Y 0 [(0, .ref (ad 20 0)), (1, .int x1)] [] s := by
  refine Z_iconst (v := 0) hC dX9_daysTo_0 rfl ?_
  refine Z_istore_n (V2 := [(2, .int 0), (0, .ref (ad 20 0)), (1, .int x1)]) hC dX9_daysTo_1 rfl (by decide) rfl ?_
  exact Z_pick [1, 2, 0] rfl k
theorem eX9_daysTo {x1 : Int32} {X : Option Value} {Y : ZS} {s : ZS} (k : ∀ C : ZC, Zok ad D ia C (d + 1) cX9_daysTo 3 RX9 (some .int) → Z l ad D ia C X Y 2 [(0, .ref (ad 20 0)), (1, .int x1), (2, .int 0)] [] s) : Ev l ad D ia (d + 1) mX9_daysTo [.ref (ad 20 0), .int x1] s X Y :=
  Ev.start (by decide +kernel) (Nat.le_of_ble_eq_true rfl) (fun C hC => bX9_daysTo_0  hC (k C hC))
set_option maxRecDepth 100000 in
set_option maxHeartbeats 4000000 in
theorem bX9_daysTo_2 {x1 : Int32} {x2 : Int32} {C : ZC} {X : Option Value} {Y : ZS} {s : ZS} (hC : Zok ad D ia C (d + 1) cX9_daysTo 3 RX9 (some .int)) (k : ((60 < x2 → (X = some (.int ((-4))) ∧ Y = s)) ∧ (¬ 60 < x2 → (∃ (r3 : Int32) (s2 : ZS), Ev l ad D ia d mX9_ofReader [.ref (ad 20 0), .int x1, .int 1] s (some (.int r3)) s2 ∧ ((¬ r3 = ((-4)) → (∃ s6 : ZS, Ev l ad D ia d mX9_dayGoes [.ref (ad 20 0)] s2 none s6 ∧ Z l ad D ia C X Y 2 [(0, .ref (ad 20 0)), (1, .int x1), (2, .int (x2 + 1))] [] s6)) ∧ (r3 = ((-4)) → (X = some (.int x2) ∧ Y = s2))))))) : Z l ad D ia C X Y 2 [(0, .ref (ad 20 0)), (1, .int x1), (2, .int x2)] [] s := by
  refine Z_iload_n hC dX9_daysTo_2 rfl rfl ?_
  refine Z_bipush (v := 60) hC dX9_daysTo_3 rfl ?_
  refine Z_icmp_gt (tgt := 31) hC dX9_daysTo_5 (by decide) (fun c1 => ?_) (fun c1 => ?_)
  · have k := k.1 c1
    refine Z_bipush (v := (-4)) hC dX9_daysTo_31 rfl ?_
    exact Z_iret hC dX9_daysTo_33 k.1 k.2
  · have k := k.2 c1
    refine Z_aload_n hC dX9_daysTo_8 rfl rfl ?_
    refine Z_iload_n hC dX9_daysTo_9 rfl rfl ?_
    refine Z_iconst (v := 1) hC dX9_daysTo_10 rfl ?_
    obtain ⟨r3, s2, h4, k⟩ := k
    refine Z_callV (As := [.int x1, .int 1]) (rest := []) hC h4 cvX9_153 ⟨9, rfl, zs_9, _, rfl, rfl⟩ rfl rfl (Nat.le_of_ble_eq_true rfl) dX9_daysTo_11 ?_
    refine Z_bipush (v := (-4)) hC dX9_daysTo_14 rfl ?_
    refine Z_icmp_ne (tgt := 21) hC dX9_daysTo_16 (by decide) (fun c5 => ?_) (fun c5 => ?_)
    · have k := k.1 c5
      refine Z_aload_n hC dX9_daysTo_21 rfl rfl ?_
      obtain ⟨s6, h7, k⟩ := k
      refine Z_callV (As := []) (rest := []) hC h7 cvX9_197 ⟨9, rfl, zs_9, _, rfl, rfl⟩ rfl rfl (Nat.le_of_ble_eq_true rfl) dX9_daysTo_22 ?_
      refine Z_iinc (v := x2 + 1) (V2 := [(2, .int (x2 + 1)), (0, .ref (ad 20 0)), (1, .int x1)]) hC dX9_daysTo_25 rfl rfl (by decide) rfl ?_
      refine Z_goto (tgt := 2) hC dX9_daysTo_28 (by decide) ?_
      exact Z_pick [1, 2, 0] rfl k
    · have k := k.2 c5
      refine Z_iload_n hC dX9_daysTo_19 rfl rfl ?_
      exact Z_iret hC dX9_daysTo_20 k.1 k.2
set_option maxRecDepth 100000 in
set_option maxHeartbeats 4000000 in
theorem bX9_done_0 {x1 : Int32} {C : ZC} {X : Option Value} {Y : ZS} {s : ZS} (hC : Zok ad D ia C (d + 1) cX9_done 2 RX9 (some .int)) (k : (∃ (r2 : Int32) (s1 : ZS), Ev l ad D ia d mX9_isReader [.ref (ad 20 0), .int x1] s (some (.int r2)) s1 ∧ ((¬ r2 = 0 → (∃ s5 : ZS, Ev l ad D ia d mX9_starts [.ref (ad 20 0)] s1 none s5 ∧ (∃ (r8 : Int32) (s7 : ZS), Ev l ad D ia d mX9_daysTo [.ref (ad 20 0), .int x1] s5 (some (.int r8)) s7 ∧ (X = some (.int r8) ∧ Y = s7)))) ∧ (r2 = 0 → (X = some (.int ((-1))) ∧ Y = s1))))) : Z l ad D ia C X Y 0 [(0, .ref (ad 20 0)), (1, .int x1)] [] s := by
  refine Z_aload_n hC dX9_done_0 rfl rfl ?_
  refine Z_iload_n hC dX9_done_1 rfl rfl ?_
  obtain ⟨r2, s1, h3, k⟩ := k
  refine Z_callV (As := [.int x1]) (rest := []) hC h3 cvX9_216 ⟨9, rfl, zs_9, _, rfl, rfl⟩ rfl rfl (Nat.le_of_ble_eq_true rfl) dX9_done_2 ?_
  refine Z_if_ne (tgt := 10) hC dX9_done_5 (by decide) (fun c4 => ?_) (fun c4 => ?_)
  · have k := k.1 c4
    refine Z_aload_n hC dX9_done_10 rfl rfl ?_
    obtain ⟨s5, h6, k⟩ := k
    refine Z_callV (As := []) (rest := []) hC h6 cvX9_204 ⟨9, rfl, zs_9, _, rfl, rfl⟩ rfl rfl (Nat.le_of_ble_eq_true rfl) dX9_done_11 ?_
    refine Z_aload_n hC dX9_done_14 rfl rfl ?_
    refine Z_iload_n hC dX9_done_15 rfl rfl ?_
    obtain ⟨r8, s7, h9, k⟩ := k
    refine Z_callV (As := [.int x1]) (rest := []) hC h9 cvX9_256 ⟨9, rfl, zs_9, _, rfl, rfl⟩ rfl rfl (Nat.le_of_ble_eq_true rfl) dX9_done_16 ?_
    exact Z_iret hC dX9_done_19 k.1 k.2
  · have k := k.2 c4
    refine Z_iconst (v := (-1)) hC dX9_done_8 rfl ?_
    exact Z_iret hC dX9_done_9 k.1 k.2
theorem eX9_done {x1 : Int32} {X : Option Value} {Y : ZS} {s : ZS} (k : (∃ (r2 : Int32) (s1 : ZS), Ev l ad D ia d mX9_isReader [.ref (ad 20 0), .int x1] s (some (.int r2)) s1 ∧ ((¬ r2 = 0 → (∃ s5 : ZS, Ev l ad D ia d mX9_starts [.ref (ad 20 0)] s1 none s5 ∧ (∃ (r8 : Int32) (s7 : ZS), Ev l ad D ia d mX9_daysTo [.ref (ad 20 0), .int x1] s5 (some (.int r8)) s7 ∧ (X = some (.int r8) ∧ Y = s7)))) ∧ (r2 = 0 → (X = some (.int ((-1))) ∧ Y = s1))))) : Ev l ad D ia (d + 1) mX9_done [.ref (ad 20 0), .int x1] s X Y :=
  Ev.start (by decide +kernel) (Nat.le_of_ble_eq_true rfl) (fun C hC => bX9_done_0  hC k)
set_option maxRecDepth 100000 in
set_option maxHeartbeats 4000000 in
theorem bX9_vertigo_0 {x1 : Int32} {C : ZC} {X : Option Value} {Y : ZS} {s : ZS} (hC : Zok ad D ia C (d + 1) cX9_vertigo 2 RX9 (some .int)) (k : (∃ (r2 : Int32) (s1 : ZS), Ev l ad D ia d mX9_isReader [.ref (ad 20 0), .int x1] s (some (.int r2)) s1 ∧ ((¬ r2 = 0 → (∃ s5 : ZS, Ev l ad D ia d mX9_starts [.ref (ad 20 0)] s1 none s5 ∧ (∃ s7 : ZS, Ev l ad D ia d mX9_readerGoes [.ref (ad 20 0), .int x1] s5 none s7 ∧ (X = some (.int ((s7 20).1 21)) ∧ Y = s7)))) ∧ (r2 = 0 → (X = some (.int ((-1))) ∧ Y = s1))))) : Z l ad D ia C X Y 0 [(0, .ref (ad 20 0)), (1, .int x1)] [] s := by
  refine Z_aload_n hC dX9_vertigo_0 rfl rfl ?_
  refine Z_iload_n hC dX9_vertigo_1 rfl rfl ?_
  obtain ⟨r2, s1, h3, k⟩ := k
  refine Z_callV (As := [.int x1]) (rest := []) hC h3 cvX9_216 ⟨9, rfl, zs_9, _, rfl, rfl⟩ rfl rfl (Nat.le_of_ble_eq_true rfl) dX9_vertigo_2 ?_
  refine Z_if_ne (tgt := 10) hC dX9_vertigo_5 (by decide) (fun c4 => ?_) (fun c4 => ?_)
  · have k := k.1 c4
    refine Z_aload_n hC dX9_vertigo_10 rfl rfl ?_
    obtain ⟨s5, h6, k⟩ := k
    refine Z_callV (As := []) (rest := []) hC h6 cvX9_204 ⟨9, rfl, zs_9, _, rfl, rfl⟩ rfl rfl (Nat.le_of_ble_eq_true rfl) dX9_vertigo_11 ?_
    refine Z_aload_n hC dX9_vertigo_14 rfl rfl ?_
    refine Z_iload_n hC dX9_vertigo_15 rfl rfl ?_
    obtain ⟨s7, h8, k⟩ := k
    refine Z_callV (As := [.int x1]) (rest := []) hC h8 cvX9_191 ⟨9, rfl, zs_9, _, rfl, rfl⟩ rfl rfl (Nat.le_of_ble_eq_true rfl) dX9_vertigo_16 ?_
    refine Z_aload_n hC dX9_vertigo_19 rfl rfl ?_
    refine Z_get (o := 20) (c := 9) (k := 21) (v := .int ((s7 20).1 21)) hC rfl zs_9 lkX9_178 rfl dX9_vertigo_20 ?_
    exact Z_iret hC dX9_vertigo_23 k.1 k.2
  · have k := k.2 c4
    refine Z_iconst (v := (-1)) hC dX9_vertigo_8 rfl ?_
    exact Z_iret hC dX9_vertigo_9 k.1 k.2
theorem eX9_vertigo {x1 : Int32} {X : Option Value} {Y : ZS} {s : ZS} (k : (∃ (r2 : Int32) (s1 : ZS), Ev l ad D ia d mX9_isReader [.ref (ad 20 0), .int x1] s (some (.int r2)) s1 ∧ ((¬ r2 = 0 → (∃ s5 : ZS, Ev l ad D ia d mX9_starts [.ref (ad 20 0)] s1 none s5 ∧ (∃ s7 : ZS, Ev l ad D ia d mX9_readerGoes [.ref (ad 20 0), .int x1] s5 none s7 ∧ (X = some (.int ((s7 20).1 21)) ∧ Y = s7)))) ∧ (r2 = 0 → (X = some (.int ((-1))) ∧ Y = s1))))) : Ev l ad D ia (d + 1) mX9_vertigo [.ref (ad 20 0), .int x1] s X Y :=
  Ev.start (by decide +kernel) (Nat.le_of_ble_eq_true rfl) (fun C hC => bX9_vertigo_0  hC k)
set_option maxRecDepth 100000 in
set_option maxHeartbeats 4000000 in
theorem bX9_isRow_0 {x1 : Int32} {C : ZC} {X : Option Value} {Y : ZS} {s : ZS} (hC : Zok ad D ia C d cX9_isRow 5 RX9 (some .boolean)) (k : Z l ad D ia C X Y 12 [(0, .ref (ad 20 0)), (2, .int x1), (3, .int 0), (4, .int (((s 20).1 4) - 1))] [] s) : Z l ad D ia C X Y 0 [(0, .ref (ad 20 0)), (1, .int x1)] [] s := by
  refine Z_iload_n hC dX9_isRow_0 rfl rfl ?_
  refine Z_istore_n (V2 := [(2, .int x1), (0, .ref (ad 20 0)), (1, .int x1)]) hC dX9_isRow_1 rfl (by decide) rfl ?_
  refine Z_iconst (v := 0) hC dX9_isRow_2 rfl ?_
  refine Z_istore_n (V2 := [(3, .int 0), (2, .int x1), (0, .ref (ad 20 0)), (1, .int x1)]) hC dX9_isRow_3 rfl (by decide) rfl ?_
  refine Z_aload_n hC dX9_isRow_4 rfl rfl ?_
  refine Z_get (o := 20) (c := 9) (k := 4) (v := .int ((s 20).1 4)) hC rfl zs_9 lkX9_73 rfl dX9_isRow_5 ?_
  refine Z_iconst (v := 1) hC dX9_isRow_8 rfl ?_
  refine Z_isub hC dX9_isRow_9 ?_
  refine Z_istore (V2 := [(4, .int (((s 20).1 4) - 1)), (3, .int 0), (2, .int x1), (0, .ref (ad 20 0)), (1, .int x1)]) hC dX9_isRow_10 (by decide) rfl ?_
  exact Z_pick [3, 2, 1, 0] rfl k
theorem eX9_isRow {x1 : Int32} {X : Option Value} {Y : ZS} {s : ZS} (k : ∀ C : ZC, Zok ad D ia C d cX9_isRow 5 RX9 (some .boolean) → Z l ad D ia C X Y 12 [(0, .ref (ad 20 0)), (2, .int x1), (3, .int 0), (4, .int (((s 20).1 4) - 1))] [] s) : Ev l ad D ia d mX9_isRow [.ref (ad 20 0), .int x1] s X Y :=
  Ev.start (by decide +kernel) (Nat.le_of_ble_eq_true rfl) (fun C hC => bX9_isRow_0  hC (k C hC))
set_option maxRecDepth 100000 in
set_option maxHeartbeats 4000000 in
theorem bX9_isRow_12 {x2 : Int32} {x3 : Int32} {x4 : Int32} {C : ZC} {X : Option Value} {Y : ZS} {s : ZS} (hC : Zok ad D ia C d cX9_isRow 5 RX9 (some .boolean)) (k : ((x4 < 0 → ((¬ x3 = ((1 <<< (((s 20).1 4) &&& 31)) - 1) → (X = some (.int 0) ∧ Y = s)) ∧ (x3 = ((1 <<< (((s 20).1 4) &&& 31)) - 1) → (X = some (.int 1) ∧ Y = s)))) ∧ (¬ x4 < 0 → (vp_in x4 4 ∧ (∀ s5 : ZS, s5 = stA s 20 22 x4.toNatClampNeg (rm32 x2 4) → (vp_in x4 4 ∧ Z l ad D ia C X Y 12 [(0, .ref (ad 20 0)), (2, .int (x2 / 4)), (3, .int (x3 ||| (1 <<< (((s5 20).2.2 22 x4.toNatClampNeg) &&& 31)))), (4, .int (x4 + (-1)))] [] s5)))))) : Z l ad D ia C X Y 12 [(0, .ref (ad 20 0)), (2, .int x2), (3, .int x3), (4, .int x4)] [] s := by
  refine Z_iload hC dX9_isRow_12 rfl ?_
  refine Z_if_lt (tgt := 49) hC dX9_isRow_14 (by decide) (fun c1 => ?_) (fun c1 => ?_)
  · have k := k.1 c1
    refine Z_iload_n hC dX9_isRow_49 rfl rfl ?_
    refine Z_iconst (v := 1) hC dX9_isRow_50 rfl ?_
    refine Z_aload_n hC dX9_isRow_51 rfl rfl ?_
    refine Z_get (o := 20) (c := 9) (k := 4) (v := .int ((s 20).1 4)) hC rfl zs_9 lkX9_73 rfl dX9_isRow_52 ?_
    refine Z_ishl hC dX9_isRow_55 ?_
    refine Z_iconst (v := 1) hC dX9_isRow_56 rfl ?_
    refine Z_isub hC dX9_isRow_57 ?_
    refine Z_icmp_ne (tgt := 65) hC dX9_isRow_58 (by decide) (fun c2 => ?_) (fun c2 => ?_)
    · have k := k.1 c2
      refine Z_iconst (v := 0) hC dX9_isRow_65 rfl ?_
      exact Z_zret hC dX9_isRow_66 rfl k.1 k.2
    · have k := k.2 c2
      refine Z_iconst (v := 1) hC dX9_isRow_61 rfl ?_
      refine Z_goto (tgt := 66) hC dX9_isRow_62 (by decide) ?_
      exact Z_zret hC dX9_isRow_66 rfl k.1 k.2
  · have k := k.2 c1
    refine Z_aload_n hC dX9_isRow_17 rfl rfl ?_
    refine Z_get (o := 20) (c := 9) (k := 22) (v := .ref (ad 20 23)) hC rfl zs_9 lkX9_26 rfl dX9_isRow_18 ?_
    refine Z_iload hC dX9_isRow_21 rfl ?_
    refine Z_iload_n hC dX9_isRow_23 rfl rfl ?_
    refine Z_iconst (v := 4) hC dX9_isRow_24 rfl ?_
    refine Z_irem2 hC dX9_isRow_25 (by decide) ?_
    obtain ⟨h4, k⟩ := k
    refine Z_iast2 (o := 20) (k := 22) hC (zis_of rfl rfl) h4 dX9_isRow_26 (fun s5 es5 => ?_)
    have k := k s5 es5
    refine Z_iload_n hC dX9_isRow_27 rfl rfl ?_
    refine Z_iconst (v := 4) hC dX9_isRow_28 rfl ?_
    refine Z_idiv hC dX9_isRow_29 (by decide) ?_
    refine Z_istore_n (V2 := [(2, .int (x2 / 4)), (0, .ref (ad 20 0)), (3, .int x3), (4, .int x4)]) hC dX9_isRow_30 rfl (by decide) rfl ?_
    refine Z_iload_n hC dX9_isRow_31 rfl rfl ?_
    refine Z_iconst (v := 1) hC dX9_isRow_32 rfl ?_
    refine Z_aload_n hC dX9_isRow_33 rfl rfl ?_
    refine Z_get (o := 20) (c := 9) (k := 22) (v := .ref (ad 20 23)) hC rfl zs_9 lkX9_26 rfl dX9_isRow_34 ?_
    refine Z_iload hC dX9_isRow_37 rfl ?_
    obtain ⟨h7, k⟩ := k
    refine Z_iald (o := 20) (k := 22) hC (zis_of rfl rfl) h7 dX9_isRow_39 ?_
    refine Z_ishl hC dX9_isRow_40 ?_
    refine Z_ior hC dX9_isRow_41 ?_
    refine Z_istore_n (V2 := [(3, .int (x3 ||| (1 <<< (((s5 20).2.2 22 x4.toNatClampNeg) &&& 31)))), (2, .int (x2 / 4)), (0, .ref (ad 20 0)), (4, .int x4)]) hC dX9_isRow_42 rfl (by decide) rfl ?_
    refine Z_iinc (v := x4 + (-1)) (V2 := [(4, .int (x4 + (-1))), (3, .int (x3 ||| (1 <<< (((s5 20).2.2 22 x4.toNatClampNeg) &&& 31)))), (2, .int (x2 / 4)), (0, .ref (ad 20 0))]) hC dX9_isRow_43 rfl rfl (by decide) rfl ?_
    refine Z_goto (tgt := 12) hC dX9_isRow_46 (by decide) ?_
    exact Z_pick [3, 2, 1, 0] rfl k
set_option maxRecDepth 100000 in
set_option maxHeartbeats 4000000 in
theorem bX9_minutesByRow_0 {C : ZC} {X : Option Value} {Y : ZS} {s : ZS} (hC : Zok ad D ia C (d + 1) cX9_minutesByRow 2 RX9 (some .int)) (k : (∃ s1 : ZS, Ev l ad D ia d mX9_starts [.ref (ad 20 0)] s none s1 ∧ (∃ s3 : ZS, Ev l ad D ia d mX9_startsCounting [.ref (ad 20 0)] s1 none s3 ∧ Z l ad D ia C X Y 10 [(0, .ref (ad 20 0)), (1, .int 0)] [] s3))) : Z l ad D ia C X Y 0 [(0, .ref (ad 20 0))] [] s := by
  refine Z_aload_n hC dX9_minutesByRow_0 rfl rfl ?_
  obtain ⟨s1, h2, k⟩ := k
  refine Z_callV (As := []) (rest := []) hC h2 cvX9_204 ⟨9, rfl, zs_9, _, rfl, rfl⟩ rfl rfl (Nat.le_of_ble_eq_true rfl) dX9_minutesByRow_1 ?_
  refine Z_aload_n hC dX9_minutesByRow_4 rfl rfl ?_
  obtain ⟨s3, h4, k⟩ := k
  refine Z_callV (As := []) (rest := []) hC h4 cvX9_194 ⟨9, rfl, zs_9, _, rfl, rfl⟩ rfl rfl (Nat.le_of_ble_eq_true rfl) dX9_minutesByRow_5 ?_
  refine Z_iconst (v := 0) hC dX9_minutesByRow_8 rfl ?_
  refine Z_istore_n (V2 := [(1, .int 0), (0, .ref (ad 20 0))]) hC dX9_minutesByRow_9 rfl (by decide) rfl ?_
  exact Z_pick [1, 0] rfl k
theorem eX9_minutesByRow {X : Option Value} {Y : ZS} {s : ZS} (k : ∀ C : ZC, Zok ad D ia C (d + 1) cX9_minutesByRow 2 RX9 (some .int) → (∃ s1 : ZS, Ev l ad D ia d mX9_starts [.ref (ad 20 0)] s none s1 ∧ (∃ s3 : ZS, Ev l ad D ia d mX9_startsCounting [.ref (ad 20 0)] s1 none s3 ∧ Z l ad D ia C X Y 10 [(0, .ref (ad 20 0)), (1, .int 0)] [] s3))) : Ev l ad D ia (d + 1) mX9_minutesByRow [.ref (ad 20 0)] s X Y :=
  Ev.start (by decide +kernel) (Nat.le_of_ble_eq_true rfl) (fun C hC => bX9_minutesByRow_0  hC (k C hC))
set_option maxRecDepth 100000 in
set_option maxHeartbeats 4000000 in
theorem bX9_minutesByRow_10 {x1 : Int32} {C : ZC} {X : Option Value} {Y : ZS} {s : ZS} (hC : Zok ad D ia C (d + 1) cX9_minutesByRow 2 RX9 (some .int)) (k : ((((s 20).1 4) ≤ x1 → (X = some (.int ((s 20).1 19)) ∧ Y = s)) ∧ (¬ ((s 20).1 4) ≤ x1 → (vp_in x1 4 ∧ (∃ s3 : ZS, Ev l ad D ia d mX9_readerGoes [.ref (ad 20 0), .int ((s 20).2.2 22 x1.toNatClampNeg)] s none s3 ∧ Z l ad D ia C X Y 10 [(0, .ref (ad 20 0)), (1, .int (x1 + 1))] [] s3))))) : Z l ad D ia C X Y 10 [(0, .ref (ad 20 0)), (1, .int x1)] [] s := by
  refine Z_iload_n hC dX9_minutesByRow_10 rfl rfl ?_
  refine Z_aload_n hC dX9_minutesByRow_11 rfl rfl ?_
  refine Z_get (o := 20) (c := 9) (k := 4) (v := .int ((s 20).1 4)) hC rfl zs_9 lkX9_73 rfl dX9_minutesByRow_12 ?_
  refine Z_icmp_ge (tgt := 34) hC dX9_minutesByRow_15 (by decide) (fun c1 => ?_) (fun c1 => ?_)
  · have k := k.1 c1
    refine Z_aload_n hC dX9_minutesByRow_34 rfl rfl ?_
    refine Z_get (o := 20) (c := 9) (k := 19) (v := .int ((s 20).1 19)) hC rfl zs_9 lkX9_165 rfl dX9_minutesByRow_35 ?_
    exact Z_iret hC dX9_minutesByRow_38 k.1 k.2
  · have k := k.2 c1
    refine Z_aload_n hC dX9_minutesByRow_18 rfl rfl ?_
    refine Z_aload_n hC dX9_minutesByRow_19 rfl rfl ?_
    refine Z_get (o := 20) (c := 9) (k := 22) (v := .ref (ad 20 23)) hC rfl zs_9 lkX9_26 rfl dX9_minutesByRow_20 ?_
    refine Z_iload_n hC dX9_minutesByRow_23 rfl rfl ?_
    obtain ⟨h2, k⟩ := k
    refine Z_iald (o := 20) (k := 22) hC (zis_of rfl rfl) h2 dX9_minutesByRow_24 ?_
    obtain ⟨s3, h4, k⟩ := k
    refine Z_callV (As := [.int ((s 20).2.2 22 x1.toNatClampNeg)]) (rest := []) hC h4 cvX9_191 ⟨9, rfl, zs_9, _, rfl, rfl⟩ rfl rfl (Nat.le_of_ble_eq_true rfl) dX9_minutesByRow_25 ?_
    refine Z_iinc (v := x1 + 1) (V2 := [(1, .int (x1 + 1)), (0, .ref (ad 20 0))]) hC dX9_minutesByRow_28 rfl rfl (by decide) rfl ?_
    refine Z_goto (tgt := 10) hC dX9_minutesByRow_31 (by decide) ?_
    exact Z_pick [1, 0] rfl k
set_option maxRecDepth 100000 in
set_option maxHeartbeats 4000000 in
theorem bX9_findOrder_0 {C : ZC} {X : Option Value} {Y : ZS} {s : ZS} (hC : Zok ad D ia C (d + 1) cX9_findOrder 6 RX9 (some .int)) (k : Z l ad D ia C X Y 8 [(0, .ref (ad 20 0)), (1, .int 1), (2, .int ((1000000))), (3, .int 0)] [] s) : Z l ad D ia C X Y 0 [(0, .ref (ad 20 0))] [] s := by
  refine Z_iconst (v := 1) hC dX9_findOrder_0 rfl ?_
  refine Z_istore_n (V2 := [(1, .int 1), (0, .ref (ad 20 0))]) hC dX9_findOrder_1 rfl (by decide) rfl ?_
  refine Z_ldcw hC cnX9_259 dX9_findOrder_2 ?_
  refine Z_istore_n (V2 := [(2, .int ((1000000))), (1, .int 1), (0, .ref (ad 20 0))]) hC dX9_findOrder_5 rfl (by decide) rfl ?_
  refine Z_iconst (v := 0) hC dX9_findOrder_6 rfl ?_
  refine Z_istore_n (V2 := [(3, .int 0), (2, .int ((1000000))), (1, .int 1), (0, .ref (ad 20 0))]) hC dX9_findOrder_7 rfl (by decide) rfl ?_
  exact Z_pick [3, 2, 1, 0] rfl k
theorem eX9_findOrder {X : Option Value} {Y : ZS} {s : ZS} (k : ∀ C : ZC, Zok ad D ia C (d + 1) cX9_findOrder 6 RX9 (some .int) → Z l ad D ia C X Y 8 [(0, .ref (ad 20 0)), (1, .int 1), (2, .int ((1000000))), (3, .int 0)] [] s) : Ev l ad D ia (d + 1) mX9_findOrder [.ref (ad 20 0)] s X Y :=
  Ev.start (by decide +kernel) (Nat.le_of_ble_eq_true rfl) (fun C hC => bX9_findOrder_0  hC (k C hC))
set_option maxRecDepth 100000 in
set_option maxHeartbeats 4000000 in
theorem bX9_findOrder_8 {x1 : Int32} {x2 : Int32} {x3 : Int32} {C : ZC} {X : Option Value} {Y : ZS} {s : ZS} (hC : Zok ad D ia C (d + 1) cX9_findOrder 6 RX9 (some .int)) (k : ((((s 20).1 4) ≤ x3 → Z l ad D ia C X Y 28 [(0, .ref (ad 20 0)), (1, .int x1), (2, .int x2), (3, .int 0)] [] s) ∧ (¬ ((s 20).1 4) ≤ x3 → Z l ad D ia C X Y 8 [(0, .ref (ad 20 0)), (1, .int (x1 * 4)), (2, .int x2), (3, .int (x3 + 1))] [] s))) : Z l ad D ia C X Y 8 [(0, .ref (ad 20 0)), (1, .int x1), (2, .int x2), (3, .int x3)] [] s := by
  refine Z_iload_n hC dX9_findOrder_8 rfl rfl ?_
  refine Z_aload_n hC dX9_findOrder_9 rfl rfl ?_
  refine Z_get (o := 20) (c := 9) (k := 4) (v := .int ((s 20).1 4)) hC rfl zs_9 lkX9_73 rfl dX9_findOrder_10 ?_
  refine Z_icmp_ge (tgt := 26) hC dX9_findOrder_13 (by decide) (fun c1 => ?_) (fun c1 => ?_)
  · have k := k.1 c1
    refine Z_iconst (v := 0) hC dX9_findOrder_26 rfl ?_
    refine Z_istore_n (V2 := [(3, .int 0), (0, .ref (ad 20 0)), (1, .int x1), (2, .int x2)]) hC dX9_findOrder_27 rfl (by decide) rfl ?_
    exact Z_pick [1, 2, 3, 0] rfl k
  · have k := k.2 c1
    refine Z_iload_n hC dX9_findOrder_16 rfl rfl ?_
    refine Z_iconst (v := 4) hC dX9_findOrder_17 rfl ?_
    refine Z_imul hC dX9_findOrder_18 ?_
    refine Z_istore_n (V2 := [(1, .int (x1 * 4)), (0, .ref (ad 20 0)), (2, .int x2), (3, .int x3)]) hC dX9_findOrder_19 rfl (by decide) rfl ?_
    refine Z_iinc (v := x3 + 1) (V2 := [(3, .int (x3 + 1)), (1, .int (x1 * 4)), (0, .ref (ad 20 0)), (2, .int x2)]) hC dX9_findOrder_20 rfl rfl (by decide) rfl ?_
    refine Z_goto (tgt := 8) hC dX9_findOrder_23 (by decide) ?_
    exact Z_pick [2, 1, 3, 0] rfl k
set_option maxRecDepth 100000 in
set_option maxHeartbeats 4000000 in
theorem bX9_findOrder_28 {x1 : Int32} {x2 : Int32} {x3 : Int32} {C : ZC} {X : Option Value} {Y : ZS} {s : ZS} (hC : Zok ad D ia C (d + 1) cX9_findOrder 6 RX9 (some .int)) (k : ((x1 ≤ x3 → (X = some (.int x2) ∧ Y = s)) ∧ (¬ x1 ≤ x3 → (∃ (r3 : Int32) (s2 : ZS), Ev l ad D ia d mX9_isRow [.ref (ad 20 0), .int x3] s (some (.int r3)) s2 ∧ ((r3 = 0 → ((x2 ≤ (1000000 : Int32) → Z l ad D ia C X Y 28 [(0, .ref (ad 20 0)), (1, .int x1), (2, .int x2), (3, .int (x3 + 1))] [] s2) ∧ (¬ x2 ≤ (1000000 : Int32) → Z l ad D ia C X Y 65 [(0, .ref (ad 20 0)), (1, .int x1), (2, .int ((1000000))), (3, .int x3), (5, .int 0)] [] s2))) ∧ (¬ r3 = 0 → (∃ (r8 : Int32) (s7 : ZS), Ev l ad D ia d mX9_minutesByRow [.ref (ad 20 0)] s2 (some (.int r8)) s7 ∧ ((x2 ≤ r8 → Z l ad D ia C X Y 28 [(0, .ref (ad 20 0)), (1, .int x1), (2, .int x2), (3, .int (x3 + 1))] [] s7) ∧ (¬ x2 ≤ r8 → Z l ad D ia C X Y 65 [(0, .ref (ad 20 0)), (1, .int x1), (2, .int r8), (3, .int x3), (5, .int 0)] [] s7))))))))) : Z l ad D ia C X Y 28 [(0, .ref (ad 20 0)), (1, .int x1), (2, .int x2), (3, .int x3)] [] s := by
  refine Z_iload_n hC dX9_findOrder_28 rfl rfl ?_
  refine Z_iload_n hC dX9_findOrder_29 rfl rfl ?_
  refine Z_icmp_ge (tgt := 100) hC dX9_findOrder_30 (by decide) (fun c1 => ?_) (fun c1 => ?_)
  · have k := k.1 c1
    refine Z_iload_n hC dX9_findOrder_100 rfl rfl ?_
    exact Z_iret hC dX9_findOrder_101 k.1 k.2
  · have k := k.2 c1
    refine Z_aload_n hC dX9_findOrder_33 rfl rfl ?_
    refine Z_iload_n hC dX9_findOrder_34 rfl rfl ?_
    obtain ⟨r3, s2, h4, k⟩ := k
    refine Z_callV (As := [.int x3]) (rest := []) hC h4 cvX9_260 ⟨9, rfl, zs_9, _, rfl, rfl⟩ rfl rfl (Nat.le_of_ble_eq_true rfl) dX9_findOrder_35 ?_
    refine Z_if_eq (tgt := 48) hC dX9_findOrder_38 (by decide) (fun c5 => ?_) (fun c5 => ?_)
    · have k := k.1 c5
      refine Z_ldcw hC cnX9_259 dX9_findOrder_48 ?_
      refine Z_istore (V2 := [(4, .int ((1000000))), (0, .ref (ad 20 0)), (1, .int x1), (2, .int x2), (3, .int x3)]) hC dX9_findOrder_51 (by decide) rfl ?_
      refine Z_iload hC dX9_findOrder_53 rfl ?_
      refine Z_iload_n hC dX9_findOrder_55 rfl rfl ?_
      refine Z_icmp_ge (tgt := 94) hC dX9_findOrder_56 (by decide) (fun c6 => ?_) (fun c6 => ?_)
      · have k := k.1 c6
        refine Z_iinc (v := x3 + 1) (V2 := [(3, .int (x3 + 1)), (4, .int ((1000000))), (0, .ref (ad 20 0)), (1, .int x1), (2, .int x2)]) hC dX9_findOrder_94 rfl rfl (by decide) rfl ?_
        refine Z_goto (tgt := 28) hC dX9_findOrder_97 (by decide) ?_
        exact Z_pick [2, 3, 4, 0] rfl k
      · have k := k.2 c6
        refine Z_iload hC dX9_findOrder_59 rfl ?_
        refine Z_istore_n (V2 := [(2, .int ((1000000))), (4, .int ((1000000))), (0, .ref (ad 20 0)), (1, .int x1), (3, .int x3)]) hC dX9_findOrder_61 rfl (by decide) rfl ?_
        refine Z_iconst (v := 0) hC dX9_findOrder_62 rfl ?_
        refine Z_istore (V2 := [(5, .int 0), (2, .int ((1000000))), (4, .int ((1000000))), (0, .ref (ad 20 0)), (1, .int x1), (3, .int x3)]) hC dX9_findOrder_63 (by decide) rfl ?_
        exact Z_pick [3, 4, 1, 5, 0] rfl k
    · have k := k.2 c5
      refine Z_aload_n hC dX9_findOrder_41 rfl rfl ?_
      obtain ⟨r8, s7, h9, k⟩ := k
      refine Z_callV (As := []) (rest := []) hC h9 cvX9_263 ⟨9, rfl, zs_9, _, rfl, rfl⟩ rfl rfl (Nat.le_of_ble_eq_true rfl) dX9_findOrder_42 ?_
      refine Z_goto (tgt := 51) hC dX9_findOrder_45 (by decide) ?_
      refine Z_istore (V2 := [(4, .int r8), (0, .ref (ad 20 0)), (1, .int x1), (2, .int x2), (3, .int x3)]) hC dX9_findOrder_51 (by decide) rfl ?_
      refine Z_iload hC dX9_findOrder_53 rfl ?_
      refine Z_iload_n hC dX9_findOrder_55 rfl rfl ?_
      refine Z_icmp_ge (tgt := 94) hC dX9_findOrder_56 (by decide) (fun c10 => ?_) (fun c10 => ?_)
      · have k := k.1 c10
        refine Z_iinc (v := x3 + 1) (V2 := [(3, .int (x3 + 1)), (4, .int r8), (0, .ref (ad 20 0)), (1, .int x1), (2, .int x2)]) hC dX9_findOrder_94 rfl rfl (by decide) rfl ?_
        refine Z_goto (tgt := 28) hC dX9_findOrder_97 (by decide) ?_
        exact Z_pick [2, 3, 4, 0] rfl k
      · have k := k.2 c10
        refine Z_iload hC dX9_findOrder_59 rfl ?_
        refine Z_istore_n (V2 := [(2, .int r8), (4, .int r8), (0, .ref (ad 20 0)), (1, .int x1), (3, .int x3)]) hC dX9_findOrder_61 rfl (by decide) rfl ?_
        refine Z_iconst (v := 0) hC dX9_findOrder_62 rfl ?_
        refine Z_istore (V2 := [(5, .int 0), (2, .int r8), (4, .int r8), (0, .ref (ad 20 0)), (1, .int x1), (3, .int x3)]) hC dX9_findOrder_63 (by decide) rfl ?_
        exact Z_pick [3, 4, 1, 5, 0] rfl k
set_option maxRecDepth 100000 in
set_option maxHeartbeats 4000000 in
theorem bX9_findOrder_65 {x1 : Int32} {x2 : Int32} {x3 : Int32} {x5 : Int32} {C : ZC} {X : Option Value} {Y : ZS} {s : ZS} (hC : Zok ad D ia C (d + 1) cX9_findOrder 6 RX9 (some .int)) (k : ((((s 20).1 4) ≤ x5 → Z l ad D ia C X Y 28 [(0, .ref (ad 20 0)), (1, .int x1), (2, .int x2), (3, .int (x3 + 1))] [] s) ∧ (¬ ((s 20).1 4) ≤ x5 → (vp_in x5 4 ∧ (vp_in x5 4 ∧ (∀ s4 : ZS, s4 = stA s 20 23 x5.toNatClampNeg ((s 20).2.2 22 x5.toNatClampNeg) → Z l ad D ia C X Y 65 [(0, .ref (ad 20 0)), (1, .int x1), (2, .int x2), (3, .int x3), (5, .int (x5 + 1))] [] s4)))))) : Z l ad D ia C X Y 65 [(0, .ref (ad 20 0)), (1, .int x1), (2, .int x2), (3, .int x3), (5, .int x5)] [] s := by
  refine Z_iload hC dX9_findOrder_65 rfl ?_
  refine Z_aload_n hC dX9_findOrder_67 rfl rfl ?_
  refine Z_get (o := 20) (c := 9) (k := 4) (v := .int ((s 20).1 4)) hC rfl zs_9 lkX9_73 rfl dX9_findOrder_68 ?_
  refine Z_icmp_ge (tgt := 94) hC dX9_findOrder_71 (by decide) (fun c1 => ?_) (fun c1 => ?_)
  · have k := k.1 c1
    refine Z_iinc (v := x3 + 1) (V2 := [(3, .int (x3 + 1)), (0, .ref (ad 20 0)), (1, .int x1), (2, .int x2), (5, .int x5)]) hC dX9_findOrder_94 rfl rfl (by decide) rfl ?_
    refine Z_goto (tgt := 28) hC dX9_findOrder_97 (by decide) ?_
    exact Z_pick [1, 2, 3, 0] rfl k
  · have k := k.2 c1
    refine Z_aload_n hC dX9_findOrder_74 rfl rfl ?_
    refine Z_get (o := 20) (c := 9) (k := 23) (v := .ref (ad 20 24)) hC rfl zs_9 lkX9_29 rfl dX9_findOrder_75 ?_
    refine Z_iload hC dX9_findOrder_78 rfl ?_
    refine Z_aload_n hC dX9_findOrder_80 rfl rfl ?_
    refine Z_get (o := 20) (c := 9) (k := 22) (v := .ref (ad 20 23)) hC rfl zs_9 lkX9_26 rfl dX9_findOrder_81 ?_
    refine Z_iload hC dX9_findOrder_84 rfl ?_
    obtain ⟨h2, k⟩ := k
    refine Z_iald (o := 20) (k := 22) hC (zis_of rfl rfl) h2 dX9_findOrder_86 ?_
    obtain ⟨h3, k⟩ := k
    refine Z_iast2 (o := 20) (k := 23) hC (zis_of rfl rfl) h3 dX9_findOrder_87 (fun s4 es4 => ?_)
    have k := k s4 es4
    refine Z_iinc (v := x5 + 1) (V2 := [(5, .int (x5 + 1)), (0, .ref (ad 20 0)), (1, .int x1), (2, .int x2), (3, .int x3)]) hC dX9_findOrder_88 rfl rfl (by decide) rfl ?_
    refine Z_goto (tgt := 65) hC dX9_findOrder_91 (by decide) ?_
    exact Z_pick [1, 2, 3, 4, 0] rfl k
set_option maxRecDepth 100000 in
set_option maxHeartbeats 4000000 in
theorem bX9_order_0 {x1 : Int32} {C : ZC} {X : Option Value} {Y : ZS} {s : ZS} (hC : Zok ad D ia C (d + 1) cX9_order 3 RX9 (some .int)) (k : ((x1 = 0 → (∃ (r3 : Int32) (s2 : ZS), Ev l ad D ia d mX9_findOrder [.ref (ad 20 0)] s (some (.int r3)) s2 ∧ ((¬ x1 = 0 → (vp_in (x1 - 10) 4 ∧ (X = some (.int ((s2 20).2.2 23 (x1 - 10).toNatClampNeg)) ∧ Y = s2))) ∧ (x1 = 0 → (X = some (.int r3) ∧ Y = s2))))) ∧ (¬ x1 = 0 → (∃ (r8 : Int32) (s7 : ZS), Ev l ad D ia d mX9_isReader [.ref (ad 20 0), .int (x1 - 10)] s (some (.int r8)) s7 ∧ ((¬ r8 = 0 → (∃ (r12 : Int32) (s11 : ZS), Ev l ad D ia d mX9_findOrder [.ref (ad 20 0)] s7 (some (.int r12)) s11 ∧ ((¬ x1 = 0 → (vp_in (x1 - 10) 4 ∧ (X = some (.int ((s11 20).2.2 23 (x1 - 10).toNatClampNeg)) ∧ Y = s11))) ∧ (x1 = 0 → (X = some (.int r12) ∧ Y = s11))))) ∧ (r8 = 0 → (X = some (.int ((-1))) ∧ Y = s7))))))) : Z l ad D ia C X Y 0 [(0, .ref (ad 20 0)), (1, .int x1)] [] s := by
  refine Z_iload_n hC dX9_order_0 rfl rfl ?_
  refine Z_if_eq (tgt := 17) hC dX9_order_1 (by decide) (fun c1 => ?_) (fun c1 => ?_)
  · have k := k.1 c1
    refine Z_aload_n hC dX9_order_17 rfl rfl ?_
    obtain ⟨r3, s2, h4, k⟩ := k
    refine Z_callV (As := []) (rest := []) hC h4 cvX9_266 ⟨9, rfl, zs_9, _, rfl, rfl⟩ rfl rfl (Nat.le_of_ble_eq_true rfl) dX9_order_18 ?_
    refine Z_istore_n (V2 := [(2, .int r3), (0, .ref (ad 20 0)), (1, .int x1)]) hC dX9_order_21 rfl (by decide) rfl ?_
    refine Z_iload_n hC dX9_order_22 rfl rfl ?_
    refine Z_if_ne (tgt := 30) hC dX9_order_23 (by decide) (fun c5 => ?_) (fun c5 => ?_)
    · have k := k.1 c5
      refine Z_aload_n hC dX9_order_30 rfl rfl ?_
      refine Z_get (o := 20) (c := 9) (k := 23) (v := .ref (ad 20 24)) hC rfl zs_9 lkX9_29 rfl dX9_order_31 ?_
      refine Z_iload_n hC dX9_order_34 rfl rfl ?_
      refine Z_bipush (v := 10) hC dX9_order_35 rfl ?_
      refine Z_isub hC dX9_order_37 ?_
      obtain ⟨h6, k⟩ := k
      refine Z_iald (o := 20) (k := 23) hC (zis_of rfl rfl) h6 dX9_order_38 ?_
      exact Z_iret hC dX9_order_39 k.1 k.2
    · have k := k.2 c5
      refine Z_iload_n hC dX9_order_26 rfl rfl ?_
      refine Z_goto (tgt := 39) hC dX9_order_27 (by decide) ?_
      exact Z_iret hC dX9_order_39 k.1 k.2
  · have k := k.2 c1
    refine Z_aload_n hC dX9_order_4 rfl rfl ?_
    refine Z_iload_n hC dX9_order_5 rfl rfl ?_
    refine Z_bipush (v := 10) hC dX9_order_6 rfl ?_
    refine Z_isub hC dX9_order_8 ?_
    obtain ⟨r8, s7, h9, k⟩ := k
    refine Z_callV (As := [.int (x1 - 10)]) (rest := []) hC h9 cvX9_216 ⟨9, rfl, zs_9, _, rfl, rfl⟩ rfl rfl (Nat.le_of_ble_eq_true rfl) dX9_order_9 ?_
    refine Z_if_ne (tgt := 17) hC dX9_order_12 (by decide) (fun c10 => ?_) (fun c10 => ?_)
    · have k := k.1 c10
      refine Z_aload_n hC dX9_order_17 rfl rfl ?_
      obtain ⟨r12, s11, h13, k⟩ := k
      refine Z_callV (As := []) (rest := []) hC h13 cvX9_266 ⟨9, rfl, zs_9, _, rfl, rfl⟩ rfl rfl (Nat.le_of_ble_eq_true rfl) dX9_order_18 ?_
      refine Z_istore_n (V2 := [(2, .int r12), (0, .ref (ad 20 0)), (1, .int x1)]) hC dX9_order_21 rfl (by decide) rfl ?_
      refine Z_iload_n hC dX9_order_22 rfl rfl ?_
      refine Z_if_ne (tgt := 30) hC dX9_order_23 (by decide) (fun c14 => ?_) (fun c14 => ?_)
      · have k := k.1 c14
        refine Z_aload_n hC dX9_order_30 rfl rfl ?_
        refine Z_get (o := 20) (c := 9) (k := 23) (v := .ref (ad 20 24)) hC rfl zs_9 lkX9_29 rfl dX9_order_31 ?_
        refine Z_iload_n hC dX9_order_34 rfl rfl ?_
        refine Z_bipush (v := 10) hC dX9_order_35 rfl ?_
        refine Z_isub hC dX9_order_37 ?_
        obtain ⟨h15, k⟩ := k
        refine Z_iald (o := 20) (k := 23) hC (zis_of rfl rfl) h15 dX9_order_38 ?_
        exact Z_iret hC dX9_order_39 k.1 k.2
      · have k := k.2 c14
        refine Z_iload_n hC dX9_order_26 rfl rfl ?_
        refine Z_goto (tgt := 39) hC dX9_order_27 (by decide) ?_
        exact Z_iret hC dX9_order_39 k.1 k.2
    · have k := k.2 c10
      refine Z_iconst (v := (-1)) hC dX9_order_15 rfl ?_
      exact Z_iret hC dX9_order_16 k.1 k.2
theorem eX9_order {x1 : Int32} {X : Option Value} {Y : ZS} {s : ZS} (k : ((x1 = 0 → (∃ (r3 : Int32) (s2 : ZS), Ev l ad D ia d mX9_findOrder [.ref (ad 20 0)] s (some (.int r3)) s2 ∧ ((¬ x1 = 0 → (vp_in (x1 - 10) 4 ∧ (X = some (.int ((s2 20).2.2 23 (x1 - 10).toNatClampNeg)) ∧ Y = s2))) ∧ (x1 = 0 → (X = some (.int r3) ∧ Y = s2))))) ∧ (¬ x1 = 0 → (∃ (r8 : Int32) (s7 : ZS), Ev l ad D ia d mX9_isReader [.ref (ad 20 0), .int (x1 - 10)] s (some (.int r8)) s7 ∧ ((¬ r8 = 0 → (∃ (r12 : Int32) (s11 : ZS), Ev l ad D ia d mX9_findOrder [.ref (ad 20 0)] s7 (some (.int r12)) s11 ∧ ((¬ x1 = 0 → (vp_in (x1 - 10) 4 ∧ (X = some (.int ((s11 20).2.2 23 (x1 - 10).toNatClampNeg)) ∧ Y = s11))) ∧ (x1 = 0 → (X = some (.int r12) ∧ Y = s11))))) ∧ (r8 = 0 → (X = some (.int ((-1))) ∧ Y = s7))))))) : Ev l ad D ia (d + 1) mX9_order [.ref (ad 20 0), .int x1] s X Y :=
  Ev.start (by decide +kernel) (Nat.le_of_ble_eq_true rfl) (fun C hC => bX9_order_0  hC k)
set_option maxRecDepth 100000 in
set_option maxHeartbeats 4000000 in
theorem bX9_start_0 {x1 : Int32} {x2 : Int32} {C : ZC} {X : Option Value} {Y : ZS} {s : ZS} (hC : Zok ad D ia C (d + 1) cX9_start 6 RX9 (some .int)) (k : (∃ (r2 : Int32) (s1 : ZS), Ev l ad D ia d mX9_isFar [.int x1] s (some (.int r2)) s1 ∧ ((r2 = 0 → (X = some (.int ((-1))) ∧ Y = s1)) ∧ (¬ r2 = 0 → (∃ (r6 : Int32) (s5 : ZS), Ev l ad D ia d mX9_isPart [.int x2] s1 (some (.int r6)) s5 ∧ ((¬ r6 = 0 → Z l ad D ia C X Y 26 [(0, .ref (ad 20 0)), (1, .int x1), (2, .int x2), (3, .int ((1000000))), (4, .int 0), (5, .int 0)] [] s5) ∧ (r6 = 0 → (X = some (.int ((-1))) ∧ Y = s5)))))))) : Z l ad D ia C X Y 0 [(0, .ref (ad 20 0)), (1, .int x1), (2, .int x2)] [] s := by
  refine Z_iload_n hC dX9_start_0 rfl rfl ?_
  obtain ⟨r2, s1, h3, k⟩ := k
  refine Z_callS (As := [.int x1]) (rest := []) hC h3 csX9_250 rfl rfl (Nat.le_of_ble_eq_true rfl) dX9_start_1 ?_
  refine Z_if_eq (tgt := 14) hC dX9_start_4 (by decide) (fun c4 => ?_) (fun c4 => ?_)
  · have k := k.1 c4
    refine Z_iconst (v := (-1)) hC dX9_start_14 rfl ?_
    exact Z_iret hC dX9_start_15 k.1 k.2
  · have k := k.2 c4
    refine Z_iload_n hC dX9_start_7 rfl rfl ?_
    obtain ⟨r6, s5, h7, k⟩ := k
    refine Z_callS (As := [.int x2]) (rest := []) hC h7 csX9_253 rfl rfl (Nat.le_of_ble_eq_true rfl) dX9_start_8 ?_
    refine Z_if_ne (tgt := 16) hC dX9_start_11 (by decide) (fun c8 => ?_) (fun c8 => ?_)
    · have k := k.1 c8
      refine Z_ldcw hC cnX9_259 dX9_start_16 ?_
      refine Z_istore_n (V2 := [(3, .int ((1000000))), (0, .ref (ad 20 0)), (1, .int x1), (2, .int x2)]) hC dX9_start_19 rfl (by decide) rfl ?_
      refine Z_iconst (v := 0) hC dX9_start_20 rfl ?_
      refine Z_istore (V2 := [(4, .int 0), (3, .int ((1000000))), (0, .ref (ad 20 0)), (1, .int x1), (2, .int x2)]) hC dX9_start_21 (by decide) rfl ?_
      refine Z_iconst (v := 0) hC dX9_start_23 rfl ?_
      refine Z_istore (V2 := [(5, .int 0), (4, .int 0), (3, .int ((1000000))), (0, .ref (ad 20 0)), (1, .int x1), (2, .int x2)]) hC dX9_start_24 (by decide) rfl ?_
      exact Z_pick [3, 4, 5, 2, 1, 0] rfl k
    · have k := k.2 c8
      refine Z_iconst (v := (-1)) hC dX9_start_14 rfl ?_
      exact Z_iret hC dX9_start_15 k.1 k.2
theorem eX9_start {x1 : Int32} {x2 : Int32} {X : Option Value} {Y : ZS} {s : ZS} (k : ∀ C : ZC, Zok ad D ia C (d + 1) cX9_start 6 RX9 (some .int) → (∃ (r2 : Int32) (s1 : ZS), Ev l ad D ia d mX9_isFar [.int x1] s (some (.int r2)) s1 ∧ ((r2 = 0 → (X = some (.int ((-1))) ∧ Y = s1)) ∧ (¬ r2 = 0 → (∃ (r6 : Int32) (s5 : ZS), Ev l ad D ia d mX9_isPart [.int x2] s1 (some (.int r6)) s5 ∧ ((¬ r6 = 0 → Z l ad D ia C X Y 26 [(0, .ref (ad 20 0)), (1, .int x1), (2, .int x2), (3, .int ((1000000))), (4, .int 0), (5, .int 0)] [] s5) ∧ (r6 = 0 → (X = some (.int ((-1))) ∧ Y = s5)))))))) : Ev l ad D ia (d + 1) mX9_start [.ref (ad 20 0), .int x1, .int x2] s X Y :=
  Ev.start (by decide +kernel) (Nat.le_of_ble_eq_true rfl) (fun C hC => bX9_start_0  hC (k C hC))
set_option maxRecDepth 100000 in
set_option maxHeartbeats 4000000 in
theorem bX9_start_26 {x1 : Int32} {x2 : Int32} {x3 : Int32} {x4 : Int32} {x5 : Int32} {C : ZC} {X : Option Value} {Y : ZS} {s : ZS} (hC : Zok ad D ia C (d + 1) cX9_start 6 RX9 (some .int)) (k : ((8 ≤ x5 → ((¬ x2 = 0 → (X = some (.int x3) ∧ Y = s)) ∧ (x2 = 0 → (X = some (.int x4) ∧ Y = s)))) ∧ (¬ 8 ≤ x5 → (∃ s3 : ZS, Ev l ad D ia d mX9_starts [.ref (ad 20 0)] s none s3 ∧ (vp_in 40 62 ∧ (∀ s6 : ZS, s6 = stA s3 20 1 (40 : Int32).toNatClampNeg x5 → (∃ s7 : ZS, Ev l ad D ia d mX9_daysGo [.ref (ad 20 0), .int x1] s6 none s7 ∧ ((x3 ≤ ((s7 20).1 19) → (∃ (r11 : Int32) (s10 : ZS), Ev l ad D ia d mX9_lesser [.int ((s7 20).1 19), .int x3] s7 (some (.int r11)) s10 ∧ Z l ad D ia C X Y 26 [(0, .ref (ad 20 0)), (1, .int x1), (2, .int x2), (3, .int r11), (4, .int x4), (5, .int (x5 + 1))] [] s10)) ∧ (¬ x3 ≤ ((s7 20).1 19) → (∃ (r14 : Int32) (s13 : ZS), Ev l ad D ia d mX9_lesser [.int ((s7 20).1 19), .int x3] s7 (some (.int r14)) s13 ∧ Z l ad D ia C X Y 26 [(0, .ref (ad 20 0)), (1, .int x1), (2, .int x2), (3, .int r14), (4, .int x5), (5, .int (x5 + 1))] [] s13)))))))))) : Z l ad D ia C X Y 26 [(0, .ref (ad 20 0)), (1, .int x1), (2, .int x2), (3, .int x3), (4, .int x4), (5, .int x5)] [] s := by
  refine Z_iload hC dX9_start_26 rfl ?_
  refine Z_bipush (v := 8) hC dX9_start_28 rfl ?_
  refine Z_icmp_ge (tgt := 83) hC dX9_start_30 (by decide) (fun c1 => ?_) (fun c1 => ?_)
  · have k := k.1 c1
    refine Z_iload_n hC dX9_start_83 rfl rfl ?_
    refine Z_if_ne (tgt := 92) hC dX9_start_84 (by decide) (fun c2 => ?_) (fun c2 => ?_)
    · have k := k.1 c2
      refine Z_iload_n hC dX9_start_92 rfl rfl ?_
      exact Z_iret hC dX9_start_93 k.1 k.2
    · have k := k.2 c2
      refine Z_iload hC dX9_start_87 rfl ?_
      refine Z_goto (tgt := 93) hC dX9_start_89 (by decide) ?_
      exact Z_iret hC dX9_start_93 k.1 k.2
  · have k := k.2 c1
    refine Z_aload_n hC dX9_start_33 rfl rfl ?_
    obtain ⟨s3, h4, k⟩ := k
    refine Z_callV (As := []) (rest := []) hC h4 cvX9_204 ⟨9, rfl, zs_9, _, rfl, rfl⟩ rfl rfl (Nat.le_of_ble_eq_true rfl) dX9_start_34 ?_
    refine Z_aload_n hC dX9_start_37 rfl rfl ?_
    refine Z_get (o := 20) (c := 9) (k := 1) (v := .ref (ad 20 2)) hC rfl zs_9 lkX9_13 rfl dX9_start_38 ?_
    refine Z_bipush (v := 40) hC dX9_start_41 rfl ?_
    refine Z_iload hC dX9_start_43 rfl ?_
    obtain ⟨h5, k⟩ := k
    refine Z_iast2 (o := 20) (k := 1) hC (zis_of rfl rfl) h5 dX9_start_45 (fun s6 es6 => ?_)
    have k := k s6 es6
    refine Z_aload_n hC dX9_start_46 rfl rfl ?_
    refine Z_iload_n hC dX9_start_47 rfl rfl ?_
    obtain ⟨s7, h8, k⟩ := k
    refine Z_callV (As := [.int x1]) (rest := []) hC h8 cvX9_245 ⟨9, rfl, zs_9, _, rfl, rfl⟩ rfl rfl (Nat.le_of_ble_eq_true rfl) dX9_start_48 ?_
    refine Z_aload_n hC dX9_start_51 rfl rfl ?_
    refine Z_get (o := 20) (c := 9) (k := 19) (v := .int ((s7 20).1 19)) hC rfl zs_9 lkX9_165 rfl dX9_start_52 ?_
    refine Z_iload_n hC dX9_start_55 rfl rfl ?_
    refine Z_icmp_ge (tgt := 64) hC dX9_start_56 (by decide) (fun c9 => ?_) (fun c9 => ?_)
    · have k := k.1 c9
      refine Z_iload hC dX9_start_64 rfl ?_
      refine Z_istore (V2 := [(4, .int x4), (0, .ref (ad 20 0)), (1, .int x1), (2, .int x2), (3, .int x3), (5, .int x5)]) hC dX9_start_66 (by decide) rfl ?_
      refine Z_aload_n hC dX9_start_68 rfl rfl ?_
      refine Z_get (o := 20) (c := 9) (k := 19) (v := .int ((s7 20).1 19)) hC rfl zs_9 lkX9_165 rfl dX9_start_69 ?_
      refine Z_iload_n hC dX9_start_72 rfl rfl ?_
      obtain ⟨r11, s10, h12, k⟩ := k
      refine Z_callS (As := [.int ((s7 20).1 19), .int x3]) (rest := []) hC h12 csX9_269 rfl rfl (Nat.le_of_ble_eq_true rfl) dX9_start_73 ?_
      refine Z_istore_n (V2 := [(3, .int r11), (4, .int x4), (0, .ref (ad 20 0)), (1, .int x1), (2, .int x2), (5, .int x5)]) hC dX9_start_76 rfl (by decide) rfl ?_
      refine Z_iinc (v := x5 + 1) (V2 := [(5, .int (x5 + 1)), (3, .int r11), (4, .int x4), (0, .ref (ad 20 0)), (1, .int x1), (2, .int x2)]) hC dX9_start_77 rfl rfl (by decide) rfl ?_
      refine Z_goto (tgt := 26) hC dX9_start_80 (by decide) ?_
      exact Z_pick [3, 4, 5, 1, 2, 0] rfl k
    · have k := k.2 c9
      refine Z_iload hC dX9_start_59 rfl ?_
      refine Z_goto (tgt := 66) hC dX9_start_61 (by decide) ?_
      refine Z_istore (V2 := [(4, .int x5), (0, .ref (ad 20 0)), (1, .int x1), (2, .int x2), (3, .int x3), (5, .int x5)]) hC dX9_start_66 (by decide) rfl ?_
      refine Z_aload_n hC dX9_start_68 rfl rfl ?_
      refine Z_get (o := 20) (c := 9) (k := 19) (v := .int ((s7 20).1 19)) hC rfl zs_9 lkX9_165 rfl dX9_start_69 ?_
      refine Z_iload_n hC dX9_start_72 rfl rfl ?_
      obtain ⟨r14, s13, h15, k⟩ := k
      refine Z_callS (As := [.int ((s7 20).1 19), .int x3]) (rest := []) hC h15 csX9_269 rfl rfl (Nat.le_of_ble_eq_true rfl) dX9_start_73 ?_
      refine Z_istore_n (V2 := [(3, .int r14), (4, .int x5), (0, .ref (ad 20 0)), (1, .int x1), (2, .int x2), (5, .int x5)]) hC dX9_start_76 rfl (by decide) rfl ?_
      refine Z_iinc (v := x5 + 1) (V2 := [(5, .int (x5 + 1)), (3, .int r14), (4, .int x5), (0, .ref (ad 20 0)), (1, .int x1), (2, .int x2)]) hC dX9_start_77 rfl rfl (by decide) rfl ?_
      refine Z_goto (tgt := 26) hC dX9_start_80 (by decide) ?_
      exact Z_pick [3, 4, 5, 1, 2, 0] rfl k
set_option maxRecDepth 100000 in
set_option maxHeartbeats 4000000 in
theorem bX9_swap_0 {x1 : Int32} {x2 : Int32} {C : ZC} {X : Option Value} {Y : ZS} {s : ZS} (hC : Zok ad D ia C (d + 1) cX9_swap 8 RX9 (some .int)) (k : (∃ (r2 : Int32) (s1 : ZS), Ev l ad D ia d mX9_isFar [.int x1] s (some (.int r2)) s1 ∧ ((r2 = 0 → (X = some (.int ((-1))) ∧ Y = s1)) ∧ (¬ r2 = 0 → (∃ (r6 : Int32) (s5 : ZS), Ev l ad D ia d mX9_isPart [.int x2] s1 (some (.int r6)) s5 ∧ ((¬ r6 = 0 → (∃ s9 : ZS, Ev l ad D ia d mX9_starts [.ref (ad 20 0)] s5 none s9 ∧ (∃ s11 : ZS, Ev l ad D ia d mX9_daysGo [.ref (ad 20 0), .int x1] s9 none s11 ∧ Z l ad D ia C X Y 37 [(0, .ref (ad 20 0)), (1, .int x1), (2, .int x2), (3, .int ((s11 20).1 18)), (4, .int ((-4))), (5, .int 0)] [] s11))) ∧ (r6 = 0 → (X = some (.int ((-1))) ∧ Y = s5)))))))) : Z l ad D ia C X Y 0 [(0, .ref (ad 20 0)), (1, .int x1), (2, .int x2)] [] s := by
  refine Z_iload_n hC dX9_swap_0 rfl rfl ?_
  obtain ⟨r2, s1, h3, k⟩ := k
  refine Z_callS (As := [.int x1]) (rest := []) hC h3 csX9_250 rfl rfl (Nat.le_of_ble_eq_true rfl) dX9_swap_1 ?_
  refine Z_if_eq (tgt := 14) hC dX9_swap_4 (by decide) (fun c4 => ?_) (fun c4 => ?_)
  · have k := k.1 c4
    refine Z_iconst (v := (-1)) hC dX9_swap_14 rfl ?_
    exact Z_iret hC dX9_swap_15 k.1 k.2
  · have k := k.2 c4
    refine Z_iload_n hC dX9_swap_7 rfl rfl ?_
    obtain ⟨r6, s5, h7, k⟩ := k
    refine Z_callS (As := [.int x2]) (rest := []) hC h7 csX9_253 rfl rfl (Nat.le_of_ble_eq_true rfl) dX9_swap_8 ?_
    refine Z_if_ne (tgt := 16) hC dX9_swap_11 (by decide) (fun c8 => ?_) (fun c8 => ?_)
    · have k := k.1 c8
      refine Z_aload_n hC dX9_swap_16 rfl rfl ?_
      obtain ⟨s9, h10, k⟩ := k
      refine Z_callV (As := []) (rest := []) hC h10 cvX9_204 ⟨9, rfl, zs_9, _, rfl, rfl⟩ rfl rfl (Nat.le_of_ble_eq_true rfl) dX9_swap_17 ?_
      refine Z_aload_n hC dX9_swap_20 rfl rfl ?_
      refine Z_iload_n hC dX9_swap_21 rfl rfl ?_
      obtain ⟨s11, h12, k⟩ := k
      refine Z_callV (As := [.int x1]) (rest := []) hC h12 cvX9_245 ⟨9, rfl, zs_9, _, rfl, rfl⟩ rfl rfl (Nat.le_of_ble_eq_true rfl) dX9_swap_22 ?_
      refine Z_aload_n hC dX9_swap_25 rfl rfl ?_
      refine Z_get (o := 20) (c := 9) (k := 18) (v := .int ((s11 20).1 18)) hC rfl zs_9 lkX9_162 rfl dX9_swap_26 ?_
      refine Z_istore_n (V2 := [(3, .int ((s11 20).1 18)), (0, .ref (ad 20 0)), (1, .int x1), (2, .int x2)]) hC dX9_swap_29 rfl (by decide) rfl ?_
      refine Z_bipush (v := (-4)) hC dX9_swap_30 rfl ?_
      refine Z_istore (V2 := [(4, .int ((-4))), (3, .int ((s11 20).1 18)), (0, .ref (ad 20 0)), (1, .int x1), (2, .int x2)]) hC dX9_swap_32 (by decide) rfl ?_
      refine Z_iconst (v := 0) hC dX9_swap_34 rfl ?_
      refine Z_istore (V2 := [(5, .int 0), (4, .int ((-4))), (3, .int ((s11 20).1 18)), (0, .ref (ad 20 0)), (1, .int x1), (2, .int x2)]) hC dX9_swap_35 (by decide) rfl ?_
      exact Z_pick [3, 4, 5, 2, 1, 0] rfl k
    · have k := k.2 c8
      refine Z_iconst (v := (-1)) hC dX9_swap_14 rfl ?_
      exact Z_iret hC dX9_swap_15 k.1 k.2
theorem eX9_swap {x1 : Int32} {x2 : Int32} {X : Option Value} {Y : ZS} {s : ZS} (k : ∀ C : ZC, Zok ad D ia C (d + 1) cX9_swap 8 RX9 (some .int) → (∃ (r2 : Int32) (s1 : ZS), Ev l ad D ia d mX9_isFar [.int x1] s (some (.int r2)) s1 ∧ ((r2 = 0 → (X = some (.int ((-1))) ∧ Y = s1)) ∧ (¬ r2 = 0 → (∃ (r6 : Int32) (s5 : ZS), Ev l ad D ia d mX9_isPart [.int x2] s1 (some (.int r6)) s5 ∧ ((¬ r6 = 0 → (∃ s9 : ZS, Ev l ad D ia d mX9_starts [.ref (ad 20 0)] s5 none s9 ∧ (∃ s11 : ZS, Ev l ad D ia d mX9_daysGo [.ref (ad 20 0), .int x1] s9 none s11 ∧ Z l ad D ia C X Y 37 [(0, .ref (ad 20 0)), (1, .int x1), (2, .int x2), (3, .int ((s11 20).1 18)), (4, .int ((-4))), (5, .int 0)] [] s11))) ∧ (r6 = 0 → (X = some (.int ((-1))) ∧ Y = s5)))))))) : Ev l ad D ia (d + 1) mX9_swap [.ref (ad 20 0), .int x1, .int x2] s X Y :=
  Ev.start (by decide +kernel) (Nat.le_of_ble_eq_true rfl) (fun C hC => bX9_swap_0  hC (k C hC))
set_option maxRecDepth 100000 in
set_option maxHeartbeats 4000000 in
theorem bX9_swap_37 {x1 : Int32} {x2 : Int32} {x3 : Int32} {x4 : Int32} {x5 : Int32} {C : ZC} {X : Option Value} {Y : ZS} {s : ZS} (hC : Zok ad D ia C (d + 1) cX9_swap 8 RX9 (some .int)) (k : ((((s 20).1 3) ≤ x5 → ((¬ x4 = ((-4)) → ((¬ x2 = 0 → (X = some (.int x3) ∧ Y = s)) ∧ (x2 = 0 → (X = some (.int x4) ∧ Y = s)))) ∧ (x4 = ((-4)) → (X = some (.int ((-4))) ∧ Y = s)))) ∧ (¬ ((s 20).1 3) ≤ x5 → Z l ad D ia C X Y 52 [(0, .ref (ad 20 0)), (1, .int x1), (2, .int x2), (3, .int x3), (4, .int x4), (5, .int x5), (6, .int (x5 + 1))] [] s))) : Z l ad D ia C X Y 37 [(0, .ref (ad 20 0)), (1, .int x1), (2, .int x2), (3, .int x3), (4, .int x4), (5, .int x5)] [] s := by
  refine Z_iload hC dX9_swap_37 rfl ?_
  refine Z_aload_n hC dX9_swap_39 rfl rfl ?_
  refine Z_get (o := 20) (c := 9) (k := 3) (v := .int ((s 20).1 3)) hC rfl zs_9 lkX9_70 rfl dX9_swap_40 ?_
  refine Z_icmp_ge (tgt := 185) hC dX9_swap_43 (by decide) (fun c1 => ?_) (fun c1 => ?_)
  · have k := k.1 c1
    refine Z_iload hC dX9_swap_185 rfl ?_
    refine Z_bipush (v := (-4)) hC dX9_swap_187 rfl ?_
    refine Z_icmp_ne (tgt := 197) hC dX9_swap_189 (by decide) (fun c2 => ?_) (fun c2 => ?_)
    · have k := k.1 c2
      refine Z_iload_n hC dX9_swap_197 rfl rfl ?_
      refine Z_if_ne (tgt := 206) hC dX9_swap_198 (by decide) (fun c3 => ?_) (fun c3 => ?_)
      · have k := k.1 c3
        refine Z_iload_n hC dX9_swap_206 rfl rfl ?_
        exact Z_iret hC dX9_swap_207 k.1 k.2
      · have k := k.2 c3
        refine Z_iload hC dX9_swap_201 rfl ?_
        refine Z_goto (tgt := 207) hC dX9_swap_203 (by decide) ?_
        exact Z_iret hC dX9_swap_207 k.1 k.2
    · have k := k.2 c2
      refine Z_bipush (v := (-4)) hC dX9_swap_192 rfl ?_
      refine Z_goto (tgt := 207) hC dX9_swap_194 (by decide) ?_
      exact Z_iret hC dX9_swap_207 k.1 k.2
  · have k := k.2 c1
    refine Z_iload hC dX9_swap_46 rfl ?_
    refine Z_iconst (v := 1) hC dX9_swap_48 rfl ?_
    refine Z_iadd hC dX9_swap_49 ?_
    refine Z_istore (V2 := [(6, .int (x5 + 1)), (0, .ref (ad 20 0)), (1, .int x1), (2, .int x2), (3, .int x3), (4, .int x4), (5, .int x5)]) hC dX9_swap_50 (by decide) rfl ?_
    exact Z_pick [1, 2, 3, 4, 5, 6, 0] rfl k
set_option maxRecDepth 100000 in
set_option maxHeartbeats 4000000 in
theorem bX9_swap_52 {x1 : Int32} {x2 : Int32} {x3 : Int32} {x4 : Int32} {x5 : Int32} {x6 : Int32} {C : ZC} {X : Option Value} {Y : ZS} {s : ZS} (hC : Zok ad D ia C (d + 1) cX9_swap 8 RX9 (some .int)) (k : ((((s 20).1 3) ≤ x6 → Z l ad D ia C X Y 37 [(0, .ref (ad 20 0)), (1, .int x1), (2, .int x2), (3, .int x3), (4, .int x4), (5, .int (x5 + 1))] [] s) ∧ (¬ ((s 20).1 3) ≤ x6 → (∃ s2 : ZS, Ev l ad D ia d mX9_starts [.ref (ad 20 0)] s none s2 ∧ Z l ad D ia C X Y 68 [(0, .ref (ad 20 0)), (1, .int x1), (2, .int x2), (3, .int x3), (4, .int x4), (5, .int x5), (6, .int x6), (7, .int 0)] [] s2)))) : Z l ad D ia C X Y 52 [(0, .ref (ad 20 0)), (1, .int x1), (2, .int x2), (3, .int x3), (4, .int x4), (5, .int x5), (6, .int x6)] [] s := by
  refine Z_iload hC dX9_swap_52 rfl ?_
  refine Z_aload_n hC dX9_swap_54 rfl rfl ?_
  refine Z_get (o := 20) (c := 9) (k := 3) (v := .int ((s 20).1 3)) hC rfl zs_9 lkX9_70 rfl dX9_swap_55 ?_
  refine Z_icmp_ge (tgt := 179) hC dX9_swap_58 (by decide) (fun c1 => ?_) (fun c1 => ?_)
  · have k := k.1 c1
    refine Z_iinc (v := x5 + 1) (V2 := [(5, .int (x5 + 1)), (0, .ref (ad 20 0)), (1, .int x1), (2, .int x2), (3, .int x3), (4, .int x4), (6, .int x6)]) hC dX9_swap_179 rfl rfl (by decide) rfl ?_
    refine Z_goto (tgt := 37) hC dX9_swap_182 (by decide) ?_
    exact Z_pick [1, 2, 3, 4, 5, 0] rfl k
  · have k := k.2 c1
    refine Z_aload_n hC dX9_swap_61 rfl rfl ?_
    obtain ⟨s2, h3, k⟩ := k
    refine Z_callV (As := []) (rest := []) hC h3 cvX9_204 ⟨9, rfl, zs_9, _, rfl, rfl⟩ rfl rfl (Nat.le_of_ble_eq_true rfl) dX9_swap_62 ?_
    refine Z_iconst (v := 0) hC dX9_swap_65 rfl ?_
    refine Z_istore (V2 := [(7, .int 0), (0, .ref (ad 20 0)), (1, .int x1), (2, .int x2), (3, .int x3), (4, .int x4), (5, .int x5), (6, .int x6)]) hC dX9_swap_66 (by decide) rfl ?_
    exact Z_pick [1, 2, 3, 4, 5, 6, 7, 0] rfl k
set_option maxRecDepth 100000 in
set_option maxHeartbeats 4000000 in
theorem bX9_swap_68 {x1 : Int32} {x2 : Int32} {x3 : Int32} {x4 : Int32} {x5 : Int32} {x6 : Int32} {x7 : Int32} {C : ZC} {X : Option Value} {Y : ZS} {s : ZS} (hC : Zok ad D ia C (d + 1) cX9_swap 8 RX9 (some .int)) (k : ((1 < x7 → (∃ s2 : ZS, Ev l ad D ia d mX9_daysGo [.ref (ad 20 0), .int x1] s none s2 ∧ ((((s2 20).1 18) ≤ x3 → ((((s2 20).1 18) ≤ x3 → Z l ad D ia C X Y 52 [(0, .ref (ad 20 0)), (1, .int x1), (2, .int x2), (3, .int x3), (4, .int x4), (5, .int x5), (6, .int (x6 + 1))] [] s2) ∧ (¬ ((s2 20).1 18) ≤ x3 → Z l ad D ia C X Y 52 [(0, .ref (ad 20 0)), (1, .int x1), (2, .int x2), (3, .int ((s2 20).1 18)), (4, .int x4), (5, .int x5), (6, .int (x6 + 1))] [] s2))) ∧ (¬ ((s2 20).1 18) ≤ x3 → ((((s2 20).1 18) ≤ x3 → Z l ad D ia C X Y 52 [(0, .ref (ad 20 0)), (1, .int x1), (2, .int x2), (3, .int x3), (4, .int ((10 * x5) + x6)), (5, .int x5), (6, .int (x6 + 1))] [] s2) ∧ (¬ ((s2 20).1 18) ≤ x3 → Z l ad D ia C X Y 52 [(0, .ref (ad 20 0)), (1, .int x1), (2, .int x2), (3, .int ((s2 20).1 18)), (4, .int ((10 * x5) + x6)), (5, .int x5), (6, .int (x6 + 1))] [] s2)))))) ∧ (¬ 1 < x7 → (vp_in ((3 * x6) + x7) 186 ∧ (vp_in ((3 * x5) + x7) 62 ∧ (∀ s9 : ZS, s9 = stA s 20 1 ((3 * x5) + x7).toNatClampNeg ((s 20).2.2 0 ((3 * x6) + x7).toNatClampNeg) → (vp_in ((3 * x5) + x7) 186 ∧ (vp_in ((3 * x6) + x7) 62 ∧ (∀ s12 : ZS, s12 = stA s9 20 1 ((3 * x6) + x7).toNatClampNeg ((s9 20).2.2 0 ((3 * x5) + x7).toNatClampNeg) → Z l ad D ia C X Y 68 [(0, .ref (ad 20 0)), (1, .int x1), (2, .int x2), (3, .int x3), (4, .int x4), (5, .int x5), (6, .int x6), (7, .int (x7 + 1))] [] s12))))))))) : Z l ad D ia C X Y 68 [(0, .ref (ad 20 0)), (1, .int x1), (2, .int x2), (3, .int x3), (4, .int x4), (5, .int x5), (6, .int x6), (7, .int x7)] [] s := by
  refine Z_iload hC dX9_swap_68 rfl ?_
  refine Z_iconst (v := 1) hC dX9_swap_70 rfl ?_
  refine Z_icmp_gt (tgt := 128) hC dX9_swap_71 (by decide) (fun c1 => ?_) (fun c1 => ?_)
  · have k := k.1 c1
    refine Z_aload_n hC dX9_swap_128 rfl rfl ?_
    refine Z_iload_n hC dX9_swap_129 rfl rfl ?_
    obtain ⟨s2, h3, k⟩ := k
    refine Z_callV (As := [.int x1]) (rest := []) hC h3 cvX9_245 ⟨9, rfl, zs_9, _, rfl, rfl⟩ rfl rfl (Nat.le_of_ble_eq_true rfl) dX9_swap_130 ?_
    refine Z_aload_n hC dX9_swap_133 rfl rfl ?_
    refine Z_get (o := 20) (c := 9) (k := 18) (v := .int ((s2 20).1 18)) hC rfl zs_9 lkX9_162 rfl dX9_swap_134 ?_
    refine Z_iload_n hC dX9_swap_137 rfl rfl ?_
    refine Z_icmp_le (tgt := 152) hC dX9_swap_138 (by decide) (fun c4 => ?_) (fun c4 => ?_)
    · have k := k.1 c4
      refine Z_iload hC dX9_swap_152 rfl ?_
      refine Z_istore (V2 := [(4, .int x4), (0, .ref (ad 20 0)), (1, .int x1), (2, .int x2), (3, .int x3), (5, .int x5), (6, .int x6), (7, .int x7)]) hC dX9_swap_154 (by decide) rfl ?_
      refine Z_aload_n hC dX9_swap_156 rfl rfl ?_
      refine Z_get (o := 20) (c := 9) (k := 18) (v := .int ((s2 20).1 18)) hC rfl zs_9 lkX9_162 rfl dX9_swap_157 ?_
      refine Z_iload_n hC dX9_swap_160 rfl rfl ?_
      refine Z_icmp_le (tgt := 171) hC dX9_swap_161 (by decide) (fun c5 => ?_) (fun c5 => ?_)
      · have k := k.1 c5
        refine Z_iload_n hC dX9_swap_171 rfl rfl ?_
        refine Z_istore_n (V2 := [(3, .int x3), (4, .int x4), (0, .ref (ad 20 0)), (1, .int x1), (2, .int x2), (5, .int x5), (6, .int x6), (7, .int x7)]) hC dX9_swap_172 rfl (by decide) rfl ?_
        refine Z_iinc (v := x6 + 1) (V2 := [(6, .int (x6 + 1)), (3, .int x3), (4, .int x4), (0, .ref (ad 20 0)), (1, .int x1), (2, .int x2), (5, .int x5), (7, .int x7)]) hC dX9_swap_173 rfl rfl (by decide) rfl ?_
        refine Z_goto (tgt := 52) hC dX9_swap_176 (by decide) ?_
        exact Z_pick [3, 4, 5, 1, 2, 6, 0] rfl k
      · have k := k.2 c5
        refine Z_aload_n hC dX9_swap_164 rfl rfl ?_
        refine Z_get (o := 20) (c := 9) (k := 18) (v := .int ((s2 20).1 18)) hC rfl zs_9 lkX9_162 rfl dX9_swap_165 ?_
        refine Z_goto (tgt := 172) hC dX9_swap_168 (by decide) ?_
        refine Z_istore_n (V2 := [(3, .int ((s2 20).1 18)), (4, .int x4), (0, .ref (ad 20 0)), (1, .int x1), (2, .int x2), (5, .int x5), (6, .int x6), (7, .int x7)]) hC dX9_swap_172 rfl (by decide) rfl ?_
        refine Z_iinc (v := x6 + 1) (V2 := [(6, .int (x6 + 1)), (3, .int ((s2 20).1 18)), (4, .int x4), (0, .ref (ad 20 0)), (1, .int x1), (2, .int x2), (5, .int x5), (7, .int x7)]) hC dX9_swap_173 rfl rfl (by decide) rfl ?_
        refine Z_goto (tgt := 52) hC dX9_swap_176 (by decide) ?_
        exact Z_pick [3, 4, 5, 1, 2, 6, 0] rfl k
    · have k := k.2 c4
      refine Z_bipush (v := 10) hC dX9_swap_141 rfl ?_
      refine Z_iload hC dX9_swap_143 rfl ?_
      refine Z_imul hC dX9_swap_145 ?_
      refine Z_iload hC dX9_swap_146 rfl ?_
      refine Z_iadd hC dX9_swap_148 ?_
      refine Z_goto (tgt := 154) hC dX9_swap_149 (by decide) ?_
      refine Z_istore (V2 := [(4, .int ((10 * x5) + x6)), (0, .ref (ad 20 0)), (1, .int x1), (2, .int x2), (3, .int x3), (5, .int x5), (6, .int x6), (7, .int x7)]) hC dX9_swap_154 (by decide) rfl ?_
      refine Z_aload_n hC dX9_swap_156 rfl rfl ?_
      refine Z_get (o := 20) (c := 9) (k := 18) (v := .int ((s2 20).1 18)) hC rfl zs_9 lkX9_162 rfl dX9_swap_157 ?_
      refine Z_iload_n hC dX9_swap_160 rfl rfl ?_
      refine Z_icmp_le (tgt := 171) hC dX9_swap_161 (by decide) (fun c6 => ?_) (fun c6 => ?_)
      · have k := k.1 c6
        refine Z_iload_n hC dX9_swap_171 rfl rfl ?_
        refine Z_istore_n (V2 := [(3, .int x3), (4, .int ((10 * x5) + x6)), (0, .ref (ad 20 0)), (1, .int x1), (2, .int x2), (5, .int x5), (6, .int x6), (7, .int x7)]) hC dX9_swap_172 rfl (by decide) rfl ?_
        refine Z_iinc (v := x6 + 1) (V2 := [(6, .int (x6 + 1)), (3, .int x3), (4, .int ((10 * x5) + x6)), (0, .ref (ad 20 0)), (1, .int x1), (2, .int x2), (5, .int x5), (7, .int x7)]) hC dX9_swap_173 rfl rfl (by decide) rfl ?_
        refine Z_goto (tgt := 52) hC dX9_swap_176 (by decide) ?_
        exact Z_pick [3, 4, 5, 1, 2, 6, 0] rfl k
      · have k := k.2 c6
        refine Z_aload_n hC dX9_swap_164 rfl rfl ?_
        refine Z_get (o := 20) (c := 9) (k := 18) (v := .int ((s2 20).1 18)) hC rfl zs_9 lkX9_162 rfl dX9_swap_165 ?_
        refine Z_goto (tgt := 172) hC dX9_swap_168 (by decide) ?_
        refine Z_istore_n (V2 := [(3, .int ((s2 20).1 18)), (4, .int ((10 * x5) + x6)), (0, .ref (ad 20 0)), (1, .int x1), (2, .int x2), (5, .int x5), (6, .int x6), (7, .int x7)]) hC dX9_swap_172 rfl (by decide) rfl ?_
        refine Z_iinc (v := x6 + 1) (V2 := [(6, .int (x6 + 1)), (3, .int ((s2 20).1 18)), (4, .int ((10 * x5) + x6)), (0, .ref (ad 20 0)), (1, .int x1), (2, .int x2), (5, .int x5), (7, .int x7)]) hC dX9_swap_173 rfl rfl (by decide) rfl ?_
        refine Z_goto (tgt := 52) hC dX9_swap_176 (by decide) ?_
        exact Z_pick [3, 4, 5, 1, 2, 6, 0] rfl k
  · have k := k.2 c1
    refine Z_aload_n hC dX9_swap_74 rfl rfl ?_
    refine Z_get (o := 20) (c := 9) (k := 1) (v := .ref (ad 20 2)) hC rfl zs_9 lkX9_13 rfl dX9_swap_75 ?_
    refine Z_iconst (v := 3) hC dX9_swap_78 rfl ?_
    refine Z_iload hC dX9_swap_79 rfl ?_
    refine Z_imul hC dX9_swap_81 ?_
    refine Z_iload hC dX9_swap_82 rfl ?_
    refine Z_iadd hC dX9_swap_84 ?_
    refine Z_aload_n hC dX9_swap_85 rfl rfl ?_
    refine Z_get (o := 20) (c := 9) (k := 0) (v := .ref (ad 20 1)) hC rfl zs_9 lkX9_7 rfl dX9_swap_86 ?_
    refine Z_iconst (v := 3) hC dX9_swap_89 rfl ?_
    refine Z_iload hC dX9_swap_90 rfl ?_
    refine Z_imul hC dX9_swap_92 ?_
    refine Z_iload hC dX9_swap_93 rfl ?_
    refine Z_iadd hC dX9_swap_95 ?_
    obtain ⟨h7, k⟩ := k
    refine Z_iald (o := 20) (k := 0) hC (zis_of rfl rfl) h7 dX9_swap_96 ?_
    obtain ⟨h8, k⟩ := k
    refine Z_iast2 (o := 20) (k := 1) hC (zis_of rfl rfl) h8 dX9_swap_97 (fun s9 es9 => ?_)
    have k := k s9 es9
    refine Z_aload_n hC dX9_swap_98 rfl rfl ?_
    refine Z_get (o := 20) (c := 9) (k := 1) (v := .ref (ad 20 2)) hC rfl zs_9 lkX9_13 rfl dX9_swap_99 ?_
    refine Z_iconst (v := 3) hC dX9_swap_102 rfl ?_
    refine Z_iload hC dX9_swap_103 rfl ?_
    refine Z_imul hC dX9_swap_105 ?_
    refine Z_iload hC dX9_swap_106 rfl ?_
    refine Z_iadd hC dX9_swap_108 ?_
    refine Z_aload_n hC dX9_swap_109 rfl rfl ?_
    refine Z_get (o := 20) (c := 9) (k := 0) (v := .ref (ad 20 1)) hC rfl zs_9 lkX9_7 rfl dX9_swap_110 ?_
    refine Z_iconst (v := 3) hC dX9_swap_113 rfl ?_
    refine Z_iload hC dX9_swap_114 rfl ?_
    refine Z_imul hC dX9_swap_116 ?_
    refine Z_iload hC dX9_swap_117 rfl ?_
    refine Z_iadd hC dX9_swap_119 ?_
    obtain ⟨h10, k⟩ := k
    refine Z_iald (o := 20) (k := 0) hC (zis_of rfl rfl) h10 dX9_swap_120 ?_
    obtain ⟨h11, k⟩ := k
    refine Z_iast2 (o := 20) (k := 1) hC (zis_of rfl rfl) h11 dX9_swap_121 (fun s12 es12 => ?_)
    have k := k s12 es12
    refine Z_iinc (v := x7 + 1) (V2 := [(7, .int (x7 + 1)), (0, .ref (ad 20 0)), (1, .int x1), (2, .int x2), (3, .int x3), (4, .int x4), (5, .int x5), (6, .int x6)]) hC dX9_swap_122 rfl rfl (by decide) rfl ?_
    refine Z_goto (tgt := 68) hC dX9_swap_125 (by decide) ?_
    exact Z_pick [1, 2, 3, 4, 5, 6, 7, 0] rfl k
set_option maxRecDepth 100000 in
set_option maxHeartbeats 4000000 in
theorem bX9_knee_0 {x1 : Int32} {x2 : Int32} {C : ZC} {X : Option Value} {Y : ZS} {s : ZS} (hC : Zok ad D ia C (d + 1) cX9_knee 8 RX9 (some .int)) (k : (∃ (r2 : Int32) (s1 : ZS), Ev l ad D ia d mX9_isReader [.ref (ad 20 0), .int x1] s (some (.int r2)) s1 ∧ ((r2 = 0 → (X = some (.int ((-1))) ∧ Y = s1)) ∧ (¬ r2 = 0 → (∃ (r6 : Int32) (s5 : ZS), Ev l ad D ia d mX9_isPart [.int x2] s1 (some (.int r6)) s5 ∧ ((¬ r6 = 0 → Z l ad D ia C X Y 28 [(0, .ref (ad 20 0)), (1, .int x1), (2, .int x2), (3, .int ((1000000))), (4, .int ((-4))), (5, .int 0)] [] s5) ∧ (r6 = 0 → (X = some (.int ((-1))) ∧ Y = s5)))))))) : Z l ad D ia C X Y 0 [(0, .ref (ad 20 0)), (1, .int x1), (2, .int x2)] [] s := by
  refine Z_aload_n hC dX9_knee_0 rfl rfl ?_
  refine Z_iload_n hC dX9_knee_1 rfl rfl ?_
  obtain ⟨r2, s1, h3, k⟩ := k
  refine Z_callV (As := [.int x1]) (rest := []) hC h3 cvX9_216 ⟨9, rfl, zs_9, _, rfl, rfl⟩ rfl rfl (Nat.le_of_ble_eq_true rfl) dX9_knee_2 ?_
  refine Z_if_eq (tgt := 15) hC dX9_knee_5 (by decide) (fun c4 => ?_) (fun c4 => ?_)
  · have k := k.1 c4
    refine Z_iconst (v := (-1)) hC dX9_knee_15 rfl ?_
    exact Z_iret hC dX9_knee_16 k.1 k.2
  · have k := k.2 c4
    refine Z_iload_n hC dX9_knee_8 rfl rfl ?_
    obtain ⟨r6, s5, h7, k⟩ := k
    refine Z_callS (As := [.int x2]) (rest := []) hC h7 csX9_253 rfl rfl (Nat.le_of_ble_eq_true rfl) dX9_knee_9 ?_
    refine Z_if_ne (tgt := 17) hC dX9_knee_12 (by decide) (fun c8 => ?_) (fun c8 => ?_)
    · have k := k.1 c8
      refine Z_ldcw hC cnX9_259 dX9_knee_17 ?_
      refine Z_istore_n (V2 := [(3, .int ((1000000))), (0, .ref (ad 20 0)), (1, .int x1), (2, .int x2)]) hC dX9_knee_20 rfl (by decide) rfl ?_
      refine Z_bipush (v := (-4)) hC dX9_knee_21 rfl ?_
      refine Z_istore (V2 := [(4, .int ((-4))), (3, .int ((1000000))), (0, .ref (ad 20 0)), (1, .int x1), (2, .int x2)]) hC dX9_knee_23 (by decide) rfl ?_
      refine Z_iconst (v := 0) hC dX9_knee_25 rfl ?_
      refine Z_istore (V2 := [(5, .int 0), (4, .int ((-4))), (3, .int ((1000000))), (0, .ref (ad 20 0)), (1, .int x1), (2, .int x2)]) hC dX9_knee_26 (by decide) rfl ?_
      exact Z_pick [3, 4, 5, 2, 1, 0] rfl k
    · have k := k.2 c8
      refine Z_iconst (v := (-1)) hC dX9_knee_15 rfl ?_
      exact Z_iret hC dX9_knee_16 k.1 k.2
theorem eX9_knee {x1 : Int32} {x2 : Int32} {X : Option Value} {Y : ZS} {s : ZS} (k : ∀ C : ZC, Zok ad D ia C (d + 1) cX9_knee 8 RX9 (some .int) → (∃ (r2 : Int32) (s1 : ZS), Ev l ad D ia d mX9_isReader [.ref (ad 20 0), .int x1] s (some (.int r2)) s1 ∧ ((r2 = 0 → (X = some (.int ((-1))) ∧ Y = s1)) ∧ (¬ r2 = 0 → (∃ (r6 : Int32) (s5 : ZS), Ev l ad D ia d mX9_isPart [.int x2] s1 (some (.int r6)) s5 ∧ ((¬ r6 = 0 → Z l ad D ia C X Y 28 [(0, .ref (ad 20 0)), (1, .int x1), (2, .int x2), (3, .int ((1000000))), (4, .int ((-4))), (5, .int 0)] [] s5) ∧ (r6 = 0 → (X = some (.int ((-1))) ∧ Y = s5)))))))) : Ev l ad D ia (d + 1) mX9_knee [.ref (ad 20 0), .int x1, .int x2] s X Y :=
  Ev.start (by decide +kernel) (Nat.le_of_ble_eq_true rfl) (fun C hC => bX9_knee_0  hC (k C hC))
set_option maxRecDepth 100000 in
set_option maxHeartbeats 4000000 in
theorem bX9_knee_28 {x1 : Int32} {x2 : Int32} {x3 : Int32} {x4 : Int32} {x5 : Int32} {C : ZC} {X : Option Value} {Y : ZS} {s : ZS} (hC : Zok ad D ia C (d + 1) cX9_knee 8 RX9 (some .int)) (k : ((((s 20).1 3) ≤ x5 → ((¬ x4 = ((-4)) → ((¬ x2 = 0 → (X = some (.int x3) ∧ Y = s)) ∧ (x2 = 0 → (X = some (.int x4) ∧ Y = s)))) ∧ (x4 = ((-4)) → (X = some (.int ((-4))) ∧ Y = s)))) ∧ (¬ ((s 20).1 3) ≤ x5 → (∃ s4 : ZS, Ev l ad D ia d mX9_starts [.ref (ad 20 0)] s none s4 ∧ (vp_in ((3 * x5) + 1) 62 ∧ (∀ s7 : ZS, s7 = stA s4 20 1 ((3 * x5) + 1).toNatClampNeg 0 → (∃ (r9 : Int32) (s8 : ZS), Ev l ad D ia d mX9_daysTo [.ref (ad 20 0), .int x1] s7 (some (.int r9)) s8 ∧ ((r9 = ((-4)) → Z l ad D ia C X Y 77 [(0, .ref (ad 20 0)), (1, .int x1), (2, .int x2), (3, .int x3), (4, .int x4), (5, .int x5), (6, .int r9)] [] s8) ∧ (¬ r9 = ((-4)) → ((x3 ≤ r9 → Z l ad D ia C X Y 77 [(0, .ref (ad 20 0)), (1, .int x1), (2, .int x2), (3, .int x3), (4, .int x4), (5, .int x5), (6, .int r9)] [] s8) ∧ (¬ x3 ≤ r9 → (((1 : Int32) = 0 → (((1 : Int32) = 0 → Z l ad D ia C X Y 28 [(0, .ref (ad 20 0)), (1, .int x1), (2, .int x2), (3, .int x3), (4, .int x4), (5, .int (x5 + 1))] [] s8) ∧ (¬ (1 : Int32) = 0 → Z l ad D ia C X Y 28 [(0, .ref (ad 20 0)), (1, .int x1), (2, .int x2), (3, .int r9), (4, .int x4), (5, .int (x5 + 1))] [] s8))) ∧ (¬ (1 : Int32) = 0 → (((1 : Int32) = 0 → Z l ad D ia C X Y 28 [(0, .ref (ad 20 0)), (1, .int x1), (2, .int x2), (3, .int x3), (4, .int x5), (5, .int (x5 + 1))] [] s8) ∧ (¬ (1 : Int32) = 0 → Z l ad D ia C X Y 28 [(0, .ref (ad 20 0)), (1, .int x1), (2, .int x2), (3, .int r9), (4, .int x5), (5, .int (x5 + 1))] [] s8))))))))))))))) : Z l ad D ia C X Y 28 [(0, .ref (ad 20 0)), (1, .int x1), (2, .int x2), (3, .int x3), (4, .int x4), (5, .int x5)] [] s := by
  refine Z_iload hC dX9_knee_28 rfl ?_
  refine Z_aload_n hC dX9_knee_30 rfl rfl ?_
  refine Z_get (o := 20) (c := 9) (k := 3) (v := .int ((s 20).1 3)) hC rfl zs_9 lkX9_70 rfl dX9_knee_31 ?_
  refine Z_icmp_ge (tgt := 112) hC dX9_knee_34 (by decide) (fun c1 => ?_) (fun c1 => ?_)
  · have k := k.1 c1
    refine Z_iload hC dX9_knee_112 rfl ?_
    refine Z_bipush (v := (-4)) hC dX9_knee_114 rfl ?_
    refine Z_icmp_ne (tgt := 124) hC dX9_knee_116 (by decide) (fun c2 => ?_) (fun c2 => ?_)
    · have k := k.1 c2
      refine Z_iload_n hC dX9_knee_124 rfl rfl ?_
      refine Z_if_ne (tgt := 133) hC dX9_knee_125 (by decide) (fun c3 => ?_) (fun c3 => ?_)
      · have k := k.1 c3
        refine Z_iload_n hC dX9_knee_133 rfl rfl ?_
        exact Z_iret hC dX9_knee_134 k.1 k.2
      · have k := k.2 c3
        refine Z_iload hC dX9_knee_128 rfl ?_
        refine Z_goto (tgt := 134) hC dX9_knee_130 (by decide) ?_
        exact Z_iret hC dX9_knee_134 k.1 k.2
    · have k := k.2 c2
      refine Z_bipush (v := (-4)) hC dX9_knee_119 rfl ?_
      refine Z_goto (tgt := 134) hC dX9_knee_121 (by decide) ?_
      exact Z_iret hC dX9_knee_134 k.1 k.2
  · have k := k.2 c1
    refine Z_aload_n hC dX9_knee_37 rfl rfl ?_
    obtain ⟨s4, h5, k⟩ := k
    refine Z_callV (As := []) (rest := []) hC h5 cvX9_204 ⟨9, rfl, zs_9, _, rfl, rfl⟩ rfl rfl (Nat.le_of_ble_eq_true rfl) dX9_knee_38 ?_
    refine Z_aload_n hC dX9_knee_41 rfl rfl ?_
    refine Z_get (o := 20) (c := 9) (k := 1) (v := .ref (ad 20 2)) hC rfl zs_9 lkX9_13 rfl dX9_knee_42 ?_
    refine Z_iconst (v := 3) hC dX9_knee_45 rfl ?_
    refine Z_iload hC dX9_knee_46 rfl ?_
    refine Z_imul hC dX9_knee_48 ?_
    refine Z_iconst (v := 1) hC dX9_knee_49 rfl ?_
    refine Z_iadd hC dX9_knee_50 ?_
    refine Z_iconst (v := 0) hC dX9_knee_51 rfl ?_
    obtain ⟨h6, k⟩ := k
    refine Z_iast2 (o := 20) (k := 1) hC (zis_of rfl rfl) h6 dX9_knee_52 (fun s7 es7 => ?_)
    have k := k s7 es7
    refine Z_aload_n hC dX9_knee_53 rfl rfl ?_
    refine Z_iload_n hC dX9_knee_54 rfl rfl ?_
    obtain ⟨r9, s8, h10, k⟩ := k
    refine Z_callV (As := [.int x1]) (rest := []) hC h10 cvX9_256 ⟨9, rfl, zs_9, _, rfl, rfl⟩ rfl rfl (Nat.le_of_ble_eq_true rfl) dX9_knee_55 ?_
    refine Z_istore (V2 := [(6, .int r9), (0, .ref (ad 20 0)), (1, .int x1), (2, .int x2), (3, .int x3), (4, .int x4), (5, .int x5)]) hC dX9_knee_58 (by decide) rfl ?_
    refine Z_iload hC dX9_knee_60 rfl ?_
    refine Z_bipush (v := (-4)) hC dX9_knee_62 rfl ?_
    refine Z_icmp_eq (tgt := 77) hC dX9_knee_64 (by decide) (fun c11 => ?_) (fun c11 => ?_)
    · have k := k.1 c11
      exact Z_pick [1, 2, 3, 4, 5, 6, 0] rfl k
    · have k := k.2 c11
      refine Z_iload hC dX9_knee_67 rfl ?_
      refine Z_iload_n hC dX9_knee_69 rfl rfl ?_
      refine Z_icmp_ge (tgt := 77) hC dX9_knee_70 (by decide) (fun c12 => ?_) (fun c12 => ?_)
      · have k := k.1 c12
        exact Z_pick [1, 2, 3, 4, 5, 6, 0] rfl k
      · have k := k.2 c12
        refine Z_iconst (v := 1) hC dX9_knee_73 rfl ?_
        refine Z_goto (tgt := 78) hC dX9_knee_74 (by decide) ?_
        refine Z_istore (V2 := [(7, .int 1), (6, .int r9), (0, .ref (ad 20 0)), (1, .int x1), (2, .int x2), (3, .int x3), (4, .int x4), (5, .int x5)]) hC dX9_knee_78 (by decide) rfl ?_
        refine Z_iload hC dX9_knee_80 rfl ?_
        refine Z_if_eq (tgt := 90) hC dX9_knee_82 (by decide) (fun c13 => ?_) (fun c13 => ?_)
        · have k := k.1 c13
          refine Z_iload hC dX9_knee_90 rfl ?_
          refine Z_istore (V2 := [(4, .int x4), (7, .int 1), (6, .int r9), (0, .ref (ad 20 0)), (1, .int x1), (2, .int x2), (3, .int x3), (5, .int x5)]) hC dX9_knee_92 (by decide) rfl ?_
          refine Z_iload hC dX9_knee_94 rfl ?_
          refine Z_if_eq (tgt := 104) hC dX9_knee_96 (by decide) (fun c14 => ?_) (fun c14 => ?_)
          · have k := k.1 c14
            refine Z_iload_n hC dX9_knee_104 rfl rfl ?_
            refine Z_istore_n (V2 := [(3, .int x3), (4, .int x4), (7, .int 1), (6, .int r9), (0, .ref (ad 20 0)), (1, .int x1), (2, .int x2), (5, .int x5)]) hC dX9_knee_105 rfl (by decide) rfl ?_
            refine Z_iinc (v := x5 + 1) (V2 := [(5, .int (x5 + 1)), (3, .int x3), (4, .int x4), (7, .int 1), (6, .int r9), (0, .ref (ad 20 0)), (1, .int x1), (2, .int x2)]) hC dX9_knee_106 rfl rfl (by decide) rfl ?_
            refine Z_goto (tgt := 28) hC dX9_knee_109 (by decide) ?_
            exact Z_pick [5, 6, 7, 1, 2, 0] rfl k
          · have k := k.2 c14
            refine Z_iload hC dX9_knee_99 rfl ?_
            refine Z_goto (tgt := 105) hC dX9_knee_101 (by decide) ?_
            refine Z_istore_n (V2 := [(3, .int r9), (4, .int x4), (7, .int 1), (6, .int r9), (0, .ref (ad 20 0)), (1, .int x1), (2, .int x2), (5, .int x5)]) hC dX9_knee_105 rfl (by decide) rfl ?_
            refine Z_iinc (v := x5 + 1) (V2 := [(5, .int (x5 + 1)), (3, .int r9), (4, .int x4), (7, .int 1), (6, .int r9), (0, .ref (ad 20 0)), (1, .int x1), (2, .int x2)]) hC dX9_knee_106 rfl rfl (by decide) rfl ?_
            refine Z_goto (tgt := 28) hC dX9_knee_109 (by decide) ?_
            exact Z_pick [5, 6, 7, 1, 2, 0] rfl k
        · have k := k.2 c13
          refine Z_iload hC dX9_knee_85 rfl ?_
          refine Z_goto (tgt := 92) hC dX9_knee_87 (by decide) ?_
          refine Z_istore (V2 := [(4, .int x5), (7, .int 1), (6, .int r9), (0, .ref (ad 20 0)), (1, .int x1), (2, .int x2), (3, .int x3), (5, .int x5)]) hC dX9_knee_92 (by decide) rfl ?_
          refine Z_iload hC dX9_knee_94 rfl ?_
          refine Z_if_eq (tgt := 104) hC dX9_knee_96 (by decide) (fun c15 => ?_) (fun c15 => ?_)
          · have k := k.1 c15
            refine Z_iload_n hC dX9_knee_104 rfl rfl ?_
            refine Z_istore_n (V2 := [(3, .int x3), (4, .int x5), (7, .int 1), (6, .int r9), (0, .ref (ad 20 0)), (1, .int x1), (2, .int x2), (5, .int x5)]) hC dX9_knee_105 rfl (by decide) rfl ?_
            refine Z_iinc (v := x5 + 1) (V2 := [(5, .int (x5 + 1)), (3, .int x3), (4, .int x5), (7, .int 1), (6, .int r9), (0, .ref (ad 20 0)), (1, .int x1), (2, .int x2)]) hC dX9_knee_106 rfl rfl (by decide) rfl ?_
            refine Z_goto (tgt := 28) hC dX9_knee_109 (by decide) ?_
            exact Z_pick [5, 6, 7, 1, 2, 0] rfl k
          · have k := k.2 c15
            refine Z_iload hC dX9_knee_99 rfl ?_
            refine Z_goto (tgt := 105) hC dX9_knee_101 (by decide) ?_
            refine Z_istore_n (V2 := [(3, .int r9), (4, .int x5), (7, .int 1), (6, .int r9), (0, .ref (ad 20 0)), (1, .int x1), (2, .int x2), (5, .int x5)]) hC dX9_knee_105 rfl (by decide) rfl ?_
            refine Z_iinc (v := x5 + 1) (V2 := [(5, .int (x5 + 1)), (3, .int r9), (4, .int x5), (7, .int 1), (6, .int r9), (0, .ref (ad 20 0)), (1, .int x1), (2, .int x2)]) hC dX9_knee_106 rfl rfl (by decide) rfl ?_
            refine Z_goto (tgt := 28) hC dX9_knee_109 (by decide) ?_
            exact Z_pick [5, 6, 7, 1, 2, 0] rfl k
set_option maxRecDepth 100000 in
set_option maxHeartbeats 4000000 in
theorem bX9_knee_77 {x1 : Int32} {x2 : Int32} {x3 : Int32} {x4 : Int32} {x5 : Int32} {x6 : Int32} {C : ZC} {X : Option Value} {Y : ZS} {s : ZS} (hC : Zok ad D ia C (d + 1) cX9_knee 8 RX9 (some .int)) (k : (((0 : Int32) = 0 → (((0 : Int32) = 0 → Z l ad D ia C X Y 28 [(0, .ref (ad 20 0)), (1, .int x1), (2, .int x2), (3, .int x3), (4, .int x4), (5, .int (x5 + 1))] [] s) ∧ (¬ (0 : Int32) = 0 → Z l ad D ia C X Y 28 [(0, .ref (ad 20 0)), (1, .int x1), (2, .int x2), (3, .int x6), (4, .int x4), (5, .int (x5 + 1))] [] s))) ∧ (¬ (0 : Int32) = 0 → (((0 : Int32) = 0 → Z l ad D ia C X Y 28 [(0, .ref (ad 20 0)), (1, .int x1), (2, .int x2), (3, .int x3), (4, .int x5), (5, .int (x5 + 1))] [] s) ∧ (¬ (0 : Int32) = 0 → Z l ad D ia C X Y 28 [(0, .ref (ad 20 0)), (1, .int x1), (2, .int x2), (3, .int x6), (4, .int x5), (5, .int (x5 + 1))] [] s))))) : Z l ad D ia C X Y 77 [(0, .ref (ad 20 0)), (1, .int x1), (2, .int x2), (3, .int x3), (4, .int x4), (5, .int x5), (6, .int x6)] [] s := by
  refine Z_iconst (v := 0) hC dX9_knee_77 rfl ?_
  refine Z_istore (V2 := [(7, .int 0), (0, .ref (ad 20 0)), (1, .int x1), (2, .int x2), (3, .int x3), (4, .int x4), (5, .int x5), (6, .int x6)]) hC dX9_knee_78 (by decide) rfl ?_
  refine Z_iload hC dX9_knee_80 rfl ?_
  refine Z_if_eq (tgt := 90) hC dX9_knee_82 (by decide) (fun c1 => ?_) (fun c1 => ?_)
  · have k := k.1 c1
    refine Z_iload hC dX9_knee_90 rfl ?_
    refine Z_istore (V2 := [(4, .int x4), (7, .int 0), (0, .ref (ad 20 0)), (1, .int x1), (2, .int x2), (3, .int x3), (5, .int x5), (6, .int x6)]) hC dX9_knee_92 (by decide) rfl ?_
    refine Z_iload hC dX9_knee_94 rfl ?_
    refine Z_if_eq (tgt := 104) hC dX9_knee_96 (by decide) (fun c2 => ?_) (fun c2 => ?_)
    · have k := k.1 c2
      refine Z_iload_n hC dX9_knee_104 rfl rfl ?_
      refine Z_istore_n (V2 := [(3, .int x3), (4, .int x4), (7, .int 0), (0, .ref (ad 20 0)), (1, .int x1), (2, .int x2), (5, .int x5), (6, .int x6)]) hC dX9_knee_105 rfl (by decide) rfl ?_
      refine Z_iinc (v := x5 + 1) (V2 := [(5, .int (x5 + 1)), (3, .int x3), (4, .int x4), (7, .int 0), (0, .ref (ad 20 0)), (1, .int x1), (2, .int x2), (6, .int x6)]) hC dX9_knee_106 rfl rfl (by decide) rfl ?_
      refine Z_goto (tgt := 28) hC dX9_knee_109 (by decide) ?_
      exact Z_pick [4, 5, 6, 1, 2, 0] rfl k
    · have k := k.2 c2
      refine Z_iload hC dX9_knee_99 rfl ?_
      refine Z_goto (tgt := 105) hC dX9_knee_101 (by decide) ?_
      refine Z_istore_n (V2 := [(3, .int x6), (4, .int x4), (7, .int 0), (0, .ref (ad 20 0)), (1, .int x1), (2, .int x2), (5, .int x5), (6, .int x6)]) hC dX9_knee_105 rfl (by decide) rfl ?_
      refine Z_iinc (v := x5 + 1) (V2 := [(5, .int (x5 + 1)), (3, .int x6), (4, .int x4), (7, .int 0), (0, .ref (ad 20 0)), (1, .int x1), (2, .int x2), (6, .int x6)]) hC dX9_knee_106 rfl rfl (by decide) rfl ?_
      refine Z_goto (tgt := 28) hC dX9_knee_109 (by decide) ?_
      exact Z_pick [4, 5, 6, 1, 2, 0] rfl k
  · have k := k.2 c1
    refine Z_iload hC dX9_knee_85 rfl ?_
    refine Z_goto (tgt := 92) hC dX9_knee_87 (by decide) ?_
    refine Z_istore (V2 := [(4, .int x5), (7, .int 0), (0, .ref (ad 20 0)), (1, .int x1), (2, .int x2), (3, .int x3), (5, .int x5), (6, .int x6)]) hC dX9_knee_92 (by decide) rfl ?_
    refine Z_iload hC dX9_knee_94 rfl ?_
    refine Z_if_eq (tgt := 104) hC dX9_knee_96 (by decide) (fun c3 => ?_) (fun c3 => ?_)
    · have k := k.1 c3
      refine Z_iload_n hC dX9_knee_104 rfl rfl ?_
      refine Z_istore_n (V2 := [(3, .int x3), (4, .int x5), (7, .int 0), (0, .ref (ad 20 0)), (1, .int x1), (2, .int x2), (5, .int x5), (6, .int x6)]) hC dX9_knee_105 rfl (by decide) rfl ?_
      refine Z_iinc (v := x5 + 1) (V2 := [(5, .int (x5 + 1)), (3, .int x3), (4, .int x5), (7, .int 0), (0, .ref (ad 20 0)), (1, .int x1), (2, .int x2), (6, .int x6)]) hC dX9_knee_106 rfl rfl (by decide) rfl ?_
      refine Z_goto (tgt := 28) hC dX9_knee_109 (by decide) ?_
      exact Z_pick [4, 5, 6, 1, 2, 0] rfl k
    · have k := k.2 c3
      refine Z_iload hC dX9_knee_99 rfl ?_
      refine Z_goto (tgt := 105) hC dX9_knee_101 (by decide) ?_
      refine Z_istore_n (V2 := [(3, .int x6), (4, .int x5), (7, .int 0), (0, .ref (ad 20 0)), (1, .int x1), (2, .int x2), (5, .int x5), (6, .int x6)]) hC dX9_knee_105 rfl (by decide) rfl ?_
      refine Z_iinc (v := x5 + 1) (V2 := [(5, .int (x5 + 1)), (3, .int x6), (4, .int x5), (7, .int 0), (0, .ref (ad 20 0)), (1, .int x1), (2, .int x2), (6, .int x6)]) hC dX9_knee_106 rfl rfl (by decide) rfl ?_
      refine Z_goto (tgt := 28) hC dX9_knee_109 (by decide) ?_
      exact Z_pick [4, 5, 6, 1, 2, 0] rfl k
set_option maxRecDepth 100000 in
set_option maxHeartbeats 4000000 in
theorem bX9_need_0 {x1 : Int32} {x2 : Int32} {C : ZC} {X : Option Value} {Y : ZS} {s : ZS} (hC : Zok ad D ia C (d + 1) cX9_need 4 RX9 (some .int)) (k : (∃ (r2 : Int32) (s1 : ZS), Ev l ad D ia d mX9_isReader [.ref (ad 20 0), .int x1] s (some (.int r2)) s1 ∧ ((r2 = 0 → (X = some (.int ((-1))) ∧ Y = s1)) ∧ (¬ r2 = 0 → (∃ (r6 : Int32) (s5 : ZS), Ev l ad D ia d mX9_isFar [.int x2] s1 (some (.int r6)) s5 ∧ ((¬ r6 = 0 → Z l ad D ia C X Y 19 [(0, .ref (ad 20 0)), (1, .int x1), (2, .int x2), (3, .int 1)] [] s5) ∧ (r6 = 0 → (X = some (.int ((-1))) ∧ Y = s5)))))))) : Z l ad D ia C X Y 0 [(0, .ref (ad 20 0)), (1, .int x1), (2, .int x2)] [] s := by
  refine Z_aload_n hC dX9_need_0 rfl rfl ?_
  refine Z_iload_n hC dX9_need_1 rfl rfl ?_
  obtain ⟨r2, s1, h3, k⟩ := k
  refine Z_callV (As := [.int x1]) (rest := []) hC h3 cvX9_216 ⟨9, rfl, zs_9, _, rfl, rfl⟩ rfl rfl (Nat.le_of_ble_eq_true rfl) dX9_need_2 ?_
  refine Z_if_eq (tgt := 15) hC dX9_need_5 (by decide) (fun c4 => ?_) (fun c4 => ?_)
  · have k := k.1 c4
    refine Z_iconst (v := (-1)) hC dX9_need_15 rfl ?_
    exact Z_iret hC dX9_need_16 k.1 k.2
  · have k := k.2 c4
    refine Z_iload_n hC dX9_need_8 rfl rfl ?_
    obtain ⟨r6, s5, h7, k⟩ := k
    refine Z_callS (As := [.int x2]) (rest := []) hC h7 csX9_250 rfl rfl (Nat.le_of_ble_eq_true rfl) dX9_need_9 ?_
    refine Z_if_ne (tgt := 17) hC dX9_need_12 (by decide) (fun c8 => ?_) (fun c8 => ?_)
    · have k := k.1 c8
      refine Z_iconst (v := 1) hC dX9_need_17 rfl ?_
      refine Z_istore_n (V2 := [(3, .int 1), (0, .ref (ad 20 0)), (1, .int x1), (2, .int x2)]) hC dX9_need_18 rfl (by decide) rfl ?_
      exact Z_pick [1, 2, 3, 0] rfl k
    · have k := k.2 c8
      refine Z_iconst (v := (-1)) hC dX9_need_15 rfl ?_
      exact Z_iret hC dX9_need_16 k.1 k.2
theorem eX9_need {x1 : Int32} {x2 : Int32} {X : Option Value} {Y : ZS} {s : ZS} (k : ∀ C : ZC, Zok ad D ia C (d + 1) cX9_need 4 RX9 (some .int) → (∃ (r2 : Int32) (s1 : ZS), Ev l ad D ia d mX9_isReader [.ref (ad 20 0), .int x1] s (some (.int r2)) s1 ∧ ((r2 = 0 → (X = some (.int ((-1))) ∧ Y = s1)) ∧ (¬ r2 = 0 → (∃ (r6 : Int32) (s5 : ZS), Ev l ad D ia d mX9_isFar [.int x2] s1 (some (.int r6)) s5 ∧ ((¬ r6 = 0 → Z l ad D ia C X Y 19 [(0, .ref (ad 20 0)), (1, .int x1), (2, .int x2), (3, .int 1)] [] s5) ∧ (r6 = 0 → (X = some (.int ((-1))) ∧ Y = s5)))))))) : Ev l ad D ia (d + 1) mX9_need [.ref (ad 20 0), .int x1, .int x2] s X Y :=
  Ev.start (by decide +kernel) (Nat.le_of_ble_eq_true rfl) (fun C hC => bX9_need_0  hC (k C hC))
set_option maxRecDepth 100000 in
set_option maxHeartbeats 4000000 in
theorem bX9_need_19 {x1 : Int32} {x2 : Int32} {x3 : Int32} {C : ZC} {X : Option Value} {Y : ZS} {s : ZS} (hC : Zok ad D ia C (d + 1) cX9_need 4 RX9 (some .int)) (k : ((99 < x3 → (X = some (.int ((-4))) ∧ Y = s)) ∧ (¬ 99 < x3 → (∃ s2 : ZS, Ev l ad D ia d mX9_starts [.ref (ad 20 0)] s none s2 ∧ (∃ s4 : ZS, Ev l ad D ia d mX9_becomesOf [.ref (ad 20 0), .int x1, .int 2, .int x3] s2 none s4 ∧ (∃ s6 : ZS, Ev l ad D ia d mX9_daysGo [.ref (ad 20 0), .int x2] s4 none s6 ∧ (∃ (r9 : Int32) (s8 : ZS), Ev l ad D ia d mX9_ofReader [.ref (ad 20 0), .int x1, .int 1] s6 (some (.int r9)) s8 ∧ ((¬ r9 = ((-4)) → Z l ad D ia C X Y 19 [(0, .ref (ad 20 0)), (1, .int x1), (2, .int x2), (3, .int (x3 + 1))] [] s8) ∧ (r9 = ((-4)) → (X = some (.int x3) ∧ Y = s8)))))))))) : Z l ad D ia C X Y 19 [(0, .ref (ad 20 0)), (1, .int x1), (2, .int x2), (3, .int x3)] [] s := by
  refine Z_iload_n hC dX9_need_19 rfl rfl ?_
  refine Z_bipush (v := 99) hC dX9_need_20 rfl ?_
  refine Z_icmp_gt (tgt := 60) hC dX9_need_22 (by decide) (fun c1 => ?_) (fun c1 => ?_)
  · have k := k.1 c1
    refine Z_bipush (v := (-4)) hC dX9_need_60 rfl ?_
    exact Z_iret hC dX9_need_62 k.1 k.2
  · have k := k.2 c1
    refine Z_aload_n hC dX9_need_25 rfl rfl ?_
    obtain ⟨s2, h3, k⟩ := k
    refine Z_callV (As := []) (rest := []) hC h3 cvX9_204 ⟨9, rfl, zs_9, _, rfl, rfl⟩ rfl rfl (Nat.le_of_ble_eq_true rfl) dX9_need_26 ?_
    refine Z_aload_n hC dX9_need_29 rfl rfl ?_
    refine Z_iload_n hC dX9_need_30 rfl rfl ?_
    refine Z_iconst (v := 2) hC dX9_need_31 rfl ?_
    refine Z_iload_n hC dX9_need_32 rfl rfl ?_
    obtain ⟨s4, h5, k⟩ := k
    refine Z_callV (As := [.int x1, .int 2, .int x3]) (rest := []) hC h5 cvX9_174 ⟨9, rfl, zs_9, _, rfl, rfl⟩ rfl rfl (Nat.le_of_ble_eq_true rfl) dX9_need_33 ?_
    refine Z_aload_n hC dX9_need_36 rfl rfl ?_
    refine Z_iload_n hC dX9_need_37 rfl rfl ?_
    obtain ⟨s6, h7, k⟩ := k
    refine Z_callV (As := [.int x2]) (rest := []) hC h7 cvX9_245 ⟨9, rfl, zs_9, _, rfl, rfl⟩ rfl rfl (Nat.le_of_ble_eq_true rfl) dX9_need_38 ?_
    refine Z_aload_n hC dX9_need_41 rfl rfl ?_
    refine Z_iload_n hC dX9_need_42 rfl rfl ?_
    refine Z_iconst (v := 1) hC dX9_need_43 rfl ?_
    obtain ⟨r9, s8, h10, k⟩ := k
    refine Z_callV (As := [.int x1, .int 1]) (rest := []) hC h10 cvX9_153 ⟨9, rfl, zs_9, _, rfl, rfl⟩ rfl rfl (Nat.le_of_ble_eq_true rfl) dX9_need_44 ?_
    refine Z_bipush (v := (-4)) hC dX9_need_47 rfl ?_
    refine Z_icmp_ne (tgt := 54) hC dX9_need_49 (by decide) (fun c11 => ?_) (fun c11 => ?_)
    · have k := k.1 c11
      refine Z_iinc (v := x3 + 1) (V2 := [(3, .int (x3 + 1)), (0, .ref (ad 20 0)), (1, .int x1), (2, .int x2)]) hC dX9_need_54 rfl rfl (by decide) rfl ?_
      refine Z_goto (tgt := 19) hC dX9_need_57 (by decide) ?_
      exact Z_pick [1, 2, 3, 0] rfl k
    · have k := k.2 c11
      refine Z_iload_n hC dX9_need_52 rfl rfl ?_
      exact Z_iret hC dX9_need_53 k.1 k.2
set_option maxRecDepth 100000 in
set_option maxHeartbeats 4000000 in
theorem bX9_high_0 {x1 : Int32} {x2 : Int32} {x3 : Int32} {C : ZC} {X : Option Value} {Y : ZS} {s : ZS} (hC : Zok ad D ia C (d + 1) cX9_high 5 RX9 (some .int)) (k : (∃ (r2 : Int32) (s1 : ZS), Ev l ad D ia d mX9_isBook [.ref (ad 20 0), .int x1] s (some (.int r2)) s1 ∧ ((r2 = 0 → (X = some (.int ((-1))) ∧ Y = s1)) ∧ (¬ r2 = 0 → (∃ (r6 : Int32) (s5 : ZS), Ev l ad D ia d mX9_isReader [.ref (ad 20 0), .int x2] s1 (some (.int r6)) s5 ∧ ((r6 = 0 → (X = some (.int ((-1))) ∧ Y = s5)) ∧ (¬ r6 = 0 → (∃ (r10 : Int32) (s9 : ZS), Ev l ad D ia d mX9_isFar [.int x3] s5 (some (.int r10)) s9 ∧ ((¬ r10 = 0 → Z l ad D ia C X Y 29 [(0, .ref (ad 20 0)), (1, .int x1), (2, .int x2), (3, .int x3), (4, .int 9)] [] s9) ∧ (r10 = 0 → (X = some (.int ((-1))) ∧ Y = s9))))))))))) : Z l ad D ia C X Y 0 [(0, .ref (ad 20 0)), (1, .int x1), (2, .int x2), (3, .int x3)] [] s := by
  refine Z_aload_n hC dX9_high_0 rfl rfl ?_
  refine Z_iload_n hC dX9_high_1 rfl rfl ?_
  obtain ⟨r2, s1, h3, k⟩ := k
  refine Z_callV (As := [.int x1]) (rest := []) hC h3 cvX9_210 ⟨9, rfl, zs_9, _, rfl, rfl⟩ rfl rfl (Nat.le_of_ble_eq_true rfl) dX9_high_2 ?_
  refine Z_if_eq (tgt := 23) hC dX9_high_5 (by decide) (fun c4 => ?_) (fun c4 => ?_)
  · have k := k.1 c4
    refine Z_iconst (v := (-1)) hC dX9_high_23 rfl ?_
    exact Z_iret hC dX9_high_24 k.1 k.2
  · have k := k.2 c4
    refine Z_aload_n hC dX9_high_8 rfl rfl ?_
    refine Z_iload_n hC dX9_high_9 rfl rfl ?_
    obtain ⟨r6, s5, h7, k⟩ := k
    refine Z_callV (As := [.int x2]) (rest := []) hC h7 cvX9_216 ⟨9, rfl, zs_9, _, rfl, rfl⟩ rfl rfl (Nat.le_of_ble_eq_true rfl) dX9_high_10 ?_
    refine Z_if_eq (tgt := 23) hC dX9_high_13 (by decide) (fun c8 => ?_) (fun c8 => ?_)
    · have k := k.1 c8
      refine Z_iconst (v := (-1)) hC dX9_high_23 rfl ?_
      exact Z_iret hC dX9_high_24 k.1 k.2
    · have k := k.2 c8
      refine Z_iload_n hC dX9_high_16 rfl rfl ?_
      obtain ⟨r10, s9, h11, k⟩ := k
      refine Z_callS (As := [.int x3]) (rest := []) hC h11 csX9_250 rfl rfl (Nat.le_of_ble_eq_true rfl) dX9_high_17 ?_
      refine Z_if_ne (tgt := 25) hC dX9_high_20 (by decide) (fun c12 => ?_) (fun c12 => ?_)
      · have k := k.1 c12
        refine Z_bipush (v := 9) hC dX9_high_25 rfl ?_
        refine Z_istore (V2 := [(4, .int 9), (0, .ref (ad 20 0)), (1, .int x1), (2, .int x2), (3, .int x3)]) hC dX9_high_27 (by decide) rfl ?_
        exact Z_pick [1, 2, 3, 4, 0] rfl k
      · have k := k.2 c12
        refine Z_iconst (v := (-1)) hC dX9_high_23 rfl ?_
        exact Z_iret hC dX9_high_24 k.1 k.2
theorem eX9_high {x1 : Int32} {x2 : Int32} {x3 : Int32} {X : Option Value} {Y : ZS} {s : ZS} (k : ∀ C : ZC, Zok ad D ia C (d + 1) cX9_high 5 RX9 (some .int) → (∃ (r2 : Int32) (s1 : ZS), Ev l ad D ia d mX9_isBook [.ref (ad 20 0), .int x1] s (some (.int r2)) s1 ∧ ((r2 = 0 → (X = some (.int ((-1))) ∧ Y = s1)) ∧ (¬ r2 = 0 → (∃ (r6 : Int32) (s5 : ZS), Ev l ad D ia d mX9_isReader [.ref (ad 20 0), .int x2] s1 (some (.int r6)) s5 ∧ ((r6 = 0 → (X = some (.int ((-1))) ∧ Y = s5)) ∧ (¬ r6 = 0 → (∃ (r10 : Int32) (s9 : ZS), Ev l ad D ia d mX9_isFar [.int x3] s5 (some (.int r10)) s9 ∧ ((¬ r10 = 0 → Z l ad D ia C X Y 29 [(0, .ref (ad 20 0)), (1, .int x1), (2, .int x2), (3, .int x3), (4, .int 9)] [] s9) ∧ (r10 = 0 → (X = some (.int ((-1))) ∧ Y = s9))))))))))) : Ev l ad D ia (d + 1) mX9_high [.ref (ad 20 0), .int x1, .int x2, .int x3] s X Y :=
  Ev.start (by decide +kernel) (Nat.le_of_ble_eq_true rfl) (fun C hC => bX9_high_0  hC (k C hC))
set_option maxRecDepth 100000 in
set_option maxHeartbeats 4000000 in
theorem bX9_high_29 {x1 : Int32} {x2 : Int32} {x3 : Int32} {x4 : Int32} {C : ZC} {X : Option Value} {Y : ZS} {s : ZS} (hC : Zok ad D ia C (d + 1) cX9_high 5 RX9 (some .int)) (k : ((x4 < 0 → (X = some (.int ((-4))) ∧ Y = s)) ∧ (¬ x4 < 0 → (∃ s2 : ZS, Ev l ad D ia d mX9_starts [.ref (ad 20 0)] s none s2 ∧ (vp_in ((3 * x1) + 1) 62 ∧ (∀ s5 : ZS, s5 = stA s2 20 1 ((3 * x1) + 1).toNatClampNeg x4 → (∃ s6 : ZS, Ev l ad D ia d mX9_daysGo [.ref (ad 20 0), .int x3] s5 none s6 ∧ (∃ (r9 : Int32) (s8 : ZS), Ev l ad D ia d mX9_had [.ref (ad 20 0), .int x2, .int x1] s6 (some (.int r9)) s8 ∧ ((r9 = 0 → Z l ad D ia C X Y 29 [(0, .ref (ad 20 0)), (1, .int x1), (2, .int x2), (3, .int x3), (4, .int (x4 + (-1)))] [] s8) ∧ (¬ r9 = 0 → (X = some (.int x4) ∧ Y = s8))))))))))) : Z l ad D ia C X Y 29 [(0, .ref (ad 20 0)), (1, .int x1), (2, .int x2), (3, .int x3), (4, .int x4)] [] s := by
  refine Z_iload hC dX9_high_29 rfl ?_
  refine Z_if_lt (tgt := 73) hC dX9_high_31 (by decide) (fun c1 => ?_) (fun c1 => ?_)
  · have k := k.1 c1
    refine Z_bipush (v := (-4)) hC dX9_high_73 rfl ?_
    exact Z_iret hC dX9_high_75 k.1 k.2
  · have k := k.2 c1
    refine Z_aload_n hC dX9_high_34 rfl rfl ?_
    obtain ⟨s2, h3, k⟩ := k
    refine Z_callV (As := []) (rest := []) hC h3 cvX9_204 ⟨9, rfl, zs_9, _, rfl, rfl⟩ rfl rfl (Nat.le_of_ble_eq_true rfl) dX9_high_35 ?_
    refine Z_aload_n hC dX9_high_38 rfl rfl ?_
    refine Z_get (o := 20) (c := 9) (k := 1) (v := .ref (ad 20 2)) hC rfl zs_9 lkX9_13 rfl dX9_high_39 ?_
    refine Z_iconst (v := 3) hC dX9_high_42 rfl ?_
    refine Z_iload_n hC dX9_high_43 rfl rfl ?_
    refine Z_imul hC dX9_high_44 ?_
    refine Z_iconst (v := 1) hC dX9_high_45 rfl ?_
    refine Z_iadd hC dX9_high_46 ?_
    refine Z_iload hC dX9_high_47 rfl ?_
    obtain ⟨h4, k⟩ := k
    refine Z_iast2 (o := 20) (k := 1) hC (zis_of rfl rfl) h4 dX9_high_49 (fun s5 es5 => ?_)
    have k := k s5 es5
    refine Z_aload_n hC dX9_high_50 rfl rfl ?_
    refine Z_iload_n hC dX9_high_51 rfl rfl ?_
    obtain ⟨s6, h7, k⟩ := k
    refine Z_callV (As := [.int x3]) (rest := []) hC h7 cvX9_245 ⟨9, rfl, zs_9, _, rfl, rfl⟩ rfl rfl (Nat.le_of_ble_eq_true rfl) dX9_high_52 ?_
    refine Z_aload_n hC dX9_high_55 rfl rfl ?_
    refine Z_iload_n hC dX9_high_56 rfl rfl ?_
    refine Z_iload_n hC dX9_high_57 rfl rfl ?_
    obtain ⟨r9, s8, h10, k⟩ := k
    refine Z_callV (As := [.int x2, .int x1]) (rest := []) hC h10 cvX9_181 ⟨9, rfl, zs_9, _, rfl, rfl⟩ rfl rfl (Nat.le_of_ble_eq_true rfl) dX9_high_58 ?_
    refine Z_if_eq (tgt := 67) hC dX9_high_61 (by decide) (fun c11 => ?_) (fun c11 => ?_)
    · have k := k.1 c11
      refine Z_iinc (v := x4 + (-1)) (V2 := [(4, .int (x4 + (-1))), (0, .ref (ad 20 0)), (1, .int x1), (2, .int x2), (3, .int x3)]) hC dX9_high_67 rfl rfl (by decide) rfl ?_
      refine Z_goto (tgt := 29) hC dX9_high_70 (by decide) ?_
      exact Z_pick [1, 2, 3, 4, 0] rfl k
    · have k := k.2 c11
      refine Z_iload hC dX9_high_64 rfl ?_
      exact Z_iret hC dX9_high_66 k.1 k.2
set_option maxRecDepth 100000 in
set_option maxHeartbeats 4000000 in
theorem bX9_common_0 {y0 : Int64} {y2 : Int64} {C : ZC} {X : Option Value} {Y : ZS} {s : ZS} (hC : Zok ad D ia C d cX9_common 10 RX9 (some .long)) (k : Z l ad D ia C X Y 6 [(4, .long y0), (6, .long y2)] [] s) : Z l ad D ia C X Y 0 [(0, .long y0), (2, .long y2)] [] s := by
  refine Z_lload_n hC dX9_common_0 rfl rfl ?_
  refine Z_lstore (V2 := [(4, .long y0), (0, .long y0), (2, .long y2)]) hC dX9_common_1 (by decide) rfl ?_
  refine Z_lload_n hC dX9_common_3 rfl rfl ?_
  refine Z_lstore (V2 := [(6, .long y2), (4, .long y0), (0, .long y0), (2, .long y2)]) hC dX9_common_4 (by decide) rfl ?_
  exact Z_pick [1, 0] rfl k
theorem eX9_common {y0 : Int64} {y2 : Int64} {X : Option Value} {Y : ZS} {s : ZS} (k : ∀ C : ZC, Zok ad D ia C d cX9_common 10 RX9 (some .long) → Z l ad D ia C X Y 6 [(4, .long y0), (6, .long y2)] [] s) : Ev l ad D ia d mX9_common [.long y0, .long y2] s X Y :=
  Ev.start (by decide +kernel) (Nat.le_of_ble_eq_true rfl) (fun C hC => bX9_common_0  hC (k C hC))
set_option maxRecDepth 100000 in
set_option maxHeartbeats 4000000 in
theorem bX9_common_6 {y4 : Int64} {y6 : Int64} {C : ZC} {X : Option Value} {Y : ZS} {s : ZS} (hC : Zok ad D ia C d cX9_common 10 RX9 (some .long)) (k : (((lg_cmp y6 0) = 0 → (X = some (.long y4) ∧ Y = s)) ∧ (¬ (lg_cmp y6 0) = 0 → (¬ y6 = 0 ∧ Z l ad D ia C X Y 6 [(4, .long y6), (6, .long (rm64 y4 y6))] [] s)))) : Z l ad D ia C X Y 6 [(4, .long y4), (6, .long y6)] [] s := by
  refine Z_lload hC dX9_common_6 rfl ?_
  refine Z_lconst (v := 0) hC dX9_common_8 rfl ?_
  refine Z_lcmp hC dX9_common_9 ?_
  refine Z_if_eq (tgt := 31) hC dX9_common_10 (by decide) (fun c1 => ?_) (fun c1 => ?_)
  · have k := k.1 c1
    refine Z_lload hC dX9_common_31 rfl ?_
    exact Z_lret hC dX9_common_33 k.1 k.2
  · have k := k.2 c1
    refine Z_lload hC dX9_common_13 rfl ?_
    refine Z_lload hC dX9_common_15 rfl ?_
    obtain ⟨h2, k⟩ := k
    refine Z_lrem2 hC dX9_common_17 h2 ?_
    refine Z_lstore (V2 := [(8, .long (rm64 y4 y6)), (4, .long y4), (6, .long y6)]) hC dX9_common_18 (by decide) rfl ?_
    refine Z_lload hC dX9_common_20 rfl ?_
    refine Z_lstore (V2 := [(4, .long y6), (8, .long (rm64 y4 y6)), (6, .long y6)]) hC dX9_common_22 (by decide) rfl ?_
    refine Z_lload hC dX9_common_24 rfl ?_
    refine Z_lstore (V2 := [(6, .long (rm64 y4 y6)), (4, .long y6), (8, .long (rm64 y4 y6))]) hC dX9_common_26 (by decide) rfl ?_
    refine Z_goto (tgt := 6) hC dX9_common_28 (by decide) ?_
    exact Z_pick [1, 0] rfl k
set_option maxRecDepth 100000 in
set_option maxHeartbeats 4000000 in
theorem bX9_told_0 {y0 : Int64} {y2 : Int64} {x4 : Int32} {C : ZC} {X : Option Value} {Y : ZS} {s : ZS} (hC : Zok ad D ia C (d + 1) cX9_told 7 RX9 (some .long)) (k : (∃ (r2 : Int64) (s1 : ZS), Ev l ad D ia d mX9_common [.long y2, .long y0] s (some (.long r2)) s1 ∧ ((¬ x4 = 0 → (¬ r2 = 0 ∧ (X = some (.long (y2 / r2)) ∧ Y = s1))) ∧ (x4 = 0 → (¬ r2 = 0 ∧ (X = some (.long (y0 / r2)) ∧ Y = s1)))))) : Z l ad D ia C X Y 0 [(0, .long y0), (2, .long y2), (4, .int x4)] [] s := by
  refine Z_lload_n hC dX9_told_0 rfl rfl ?_
  refine Z_lload_n hC dX9_told_1 rfl rfl ?_
  obtain ⟨r2, s1, h3, k⟩ := k
  refine Z_callS (As := [.long y2, .long y0]) (rest := []) hC h3 csX9_272 rfl rfl (Nat.le_of_ble_eq_true rfl) dX9_told_2 ?_
  refine Z_lstore (V2 := [(5, .long r2), (0, .long y0), (2, .long y2), (4, .int x4)]) hC dX9_told_5 (by decide) rfl ?_
  refine Z_iload hC dX9_told_7 rfl ?_
  refine Z_if_ne (tgt := 19) hC dX9_told_9 (by decide) (fun c4 => ?_) (fun c4 => ?_)
  · have k := k.1 c4
    refine Z_lload_n hC dX9_told_19 rfl rfl ?_
    refine Z_lload hC dX9_told_20 rfl ?_
    obtain ⟨h5, k⟩ := k
    refine Z_ldiv hC dX9_told_22 h5 ?_
    exact Z_lret hC dX9_told_23 k.1 k.2
  · have k := k.2 c4
    refine Z_lload_n hC dX9_told_12 rfl rfl ?_
    refine Z_lload hC dX9_told_13 rfl ?_
    obtain ⟨h6, k⟩ := k
    refine Z_ldiv hC dX9_told_15 h6 ?_
    refine Z_goto (tgt := 23) hC dX9_told_16 (by decide) ?_
    exact Z_lret hC dX9_told_23 k.1 k.2
theorem eX9_told {y0 : Int64} {y2 : Int64} {x4 : Int32} {X : Option Value} {Y : ZS} {s : ZS} (k : (∃ (r2 : Int64) (s1 : ZS), Ev l ad D ia d mX9_common [.long y2, .long y0] s (some (.long r2)) s1 ∧ ((¬ x4 = 0 → (¬ r2 = 0 ∧ (X = some (.long (y2 / r2)) ∧ Y = s1))) ∧ (x4 = 0 → (¬ r2 = 0 ∧ (X = some (.long (y0 / r2)) ∧ Y = s1)))))) : Ev l ad D ia (d + 1) mX9_told [.long y0, .long y2, .int x4] s X Y :=
  Ev.start (by decide +kernel) (Nat.le_of_ble_eq_true rfl) (fun C hC => bX9_told_0  hC k)
set_option maxRecDepth 100000 in
set_option maxHeartbeats 4000000 in
theorem bX9_findOdds_0 {x1 : Int32} {x2 : Int32} {x3 : Int32} {C : ZC} {X : Option Value} {Y : ZS} {s : ZS} (hC : Zok ad D ia C (d + 1) cX9_findOdds 9 RX9 none) (k : (∀ s1 : ZS, s1 = stL s 20 24 0 → (∀ s2 : ZS, s2 = stL s1 20 25 0 → (∀ s3 : ZS, s3 = stL s2 20 26 1 → Z l ad D ia C X Y 18 [(0, .ref (ad 20 0)), (1, .int x1), (2, .int x2), (3, .int x3), (4, .int 0)] [] s3)))) : Z l ad D ia C X Y 0 [(0, .ref (ad 20 0)), (1, .int x1), (2, .int x2), (3, .int x3)] [] s := by
  refine Z_aload_n hC dX9_findOdds_0 rfl rfl ?_
  refine Z_lconst (v := 0) hC dX9_findOdds_1 rfl ?_
  refine Z_putL (o := 20) (k := 24) hC rfl zs_9 pkX9_276 rfl rfl (hsX9_24 _ _ _) dX9_findOdds_2 (fun s1 es1 => ?_)
  have k := k s1 es1
  refine Z_aload_n hC dX9_findOdds_5 rfl rfl ?_
  refine Z_lconst (v := 0) hC dX9_findOdds_6 rfl ?_
  refine Z_putL (o := 20) (k := 25) hC rfl zs_9 pkX9_280 rfl rfl (hsX9_25 _ _ _) dX9_findOdds_7 (fun s2 es2 => ?_)
  have k := k s2 es2
  refine Z_aload_n hC dX9_findOdds_10 rfl rfl ?_
  refine Z_lconst (v := 1) hC dX9_findOdds_11 rfl ?_
  refine Z_putL (o := 20) (k := 26) hC rfl zs_9 pkX9_283 rfl rfl (hsX9_26 _ _ _) dX9_findOdds_12 (fun s3 es3 => ?_)
  have k := k s3 es3
  refine Z_iconst (v := 0) hC dX9_findOdds_15 rfl ?_
  refine Z_istore (V2 := [(4, .int 0), (0, .ref (ad 20 0)), (1, .int x1), (2, .int x2), (3, .int x3)]) hC dX9_findOdds_16 (by decide) rfl ?_
  exact Z_pick [1, 2, 3, 4, 0] rfl k
theorem eX9_findOdds {x1 : Int32} {x2 : Int32} {x3 : Int32} {X : Option Value} {Y : ZS} {s : ZS} (k : ∀ C : ZC, Zok ad D ia C (d + 1) cX9_findOdds 9 RX9 none → (∀ s1 : ZS, s1 = stL s 20 24 0 → (∀ s2 : ZS, s2 = stL s1 20 25 0 → (∀ s3 : ZS, s3 = stL s2 20 26 1 → Z l ad D ia C X Y 18 [(0, .ref (ad 20 0)), (1, .int x1), (2, .int x2), (3, .int x3), (4, .int 0)] [] s3)))) : Ev l ad D ia (d + 1) mX9_findOdds [.ref (ad 20 0), .int x1, .int x2, .int x3] s X Y :=
  Ev.start (by decide +kernel) (Nat.le_of_ble_eq_true rfl) (fun C hC => bX9_findOdds_0  hC (k C hC))
set_option maxRecDepth 100000 in
set_option maxHeartbeats 4000000 in
theorem bX9_findOdds_18 {x1 : Int32} {x2 : Int32} {x3 : Int32} {x4 : Int32} {C : ZC} {X : Option Value} {Y : ZS} {s : ZS} (hC : Zok ad D ia C (d + 1) cX9_findOdds 9 RX9 none) (k : ((x2 ≤ x4 → Z l ad D ia C X Y 45 [(0, .ref (ad 20 0)), (1, .int x1), (2, .int x2), (3, .int x3), (4, .int 0)] [] s) ∧ (¬ x2 ≤ x4 → (∀ s2 : ZS, s2 = stL s 20 26 (((s 20).2.1 26) * ((10))) → Z l ad D ia C X Y 18 [(0, .ref (ad 20 0)), (1, .int x1), (2, .int x2), (3, .int x3), (4, .int (x4 + 1))] [] s2)))) : Z l ad D ia C X Y 18 [(0, .ref (ad 20 0)), (1, .int x1), (2, .int x2), (3, .int x3), (4, .int x4)] [] s := by
  refine Z_iload hC dX9_findOdds_18 rfl ?_
  refine Z_iload_n hC dX9_findOdds_20 rfl rfl ?_
  refine Z_icmp_ge (tgt := 42) hC dX9_findOdds_21 (by decide) (fun c1 => ?_) (fun c1 => ?_)
  · have k := k.1 c1
    refine Z_iconst (v := 0) hC dX9_findOdds_42 rfl ?_
    refine Z_istore (V2 := [(4, .int 0), (0, .ref (ad 20 0)), (1, .int x1), (2, .int x2), (3, .int x3)]) hC dX9_findOdds_43 (by decide) rfl ?_
    exact Z_pick [1, 2, 3, 4, 0] rfl k
  · have k := k.2 c1
    refine Z_aload_n hC dX9_findOdds_24 rfl rfl ?_
    refine Z_dup hC dX9_findOdds_25 rfl ?_
    refine Z_get (o := 20) (c := 9) (k := 26) (v := .long ((s 20).2.1 26)) hC rfl zs_9 lkX9_283 rfl dX9_findOdds_26 ?_
    refine Z_ldc2 hC clX9_286 dX9_findOdds_29 ?_
    refine Z_lmul hC dX9_findOdds_32 ?_
    refine Z_putL (o := 20) (k := 26) hC rfl zs_9 pkX9_283 rfl rfl (hsX9_26 _ _ _) dX9_findOdds_33 (fun s2 es2 => ?_)
    have k := k s2 es2
    refine Z_iinc (v := x4 + 1) (V2 := [(4, .int (x4 + 1)), (0, .ref (ad 20 0)), (1, .int x1), (2, .int x2), (3, .int x3)]) hC dX9_findOdds_36 rfl rfl (by decide) rfl ?_
    refine Z_goto (tgt := 18) hC dX9_findOdds_39 (by decide) ?_
    exact Z_pick [1, 2, 3, 4, 0] rfl k
set_option maxRecDepth 100000 in
set_option maxHeartbeats 4000000 in
theorem bX9_findOdds_45 {x1 : Int32} {x2 : Int32} {x3 : Int32} {x4 : Int32} {C : ZC} {X : Option Value} {Y : ZS} {s : ZS} (hC : Zok ad D ia C (d + 1) cX9_findOdds 9 RX9 none) (k : (((1 <<< (x2 &&& 31)) ≤ x4 → (X = none ∧ Y = s)) ∧ (¬ (1 <<< (x2 &&& 31)) ≤ x4 → (∃ s2 : ZS, Ev l ad D ia d mX9_starts [.ref (ad 20 0)] s none s2 ∧ (∃ s4 : ZS, Ev l ad D ia d mX9_startsCounting [.ref (ad 20 0)] s2 none s4 ∧ Z l ad D ia C X Y 67 [(0, .ref (ad 20 0)), (1, .int x1), (2, .int x2), (3, .int x3), (4, .int x4), (5, .long 1), (7, .int 0)] [] s4))))) : Z l ad D ia C X Y 45 [(0, .ref (ad 20 0)), (1, .int x1), (2, .int x2), (3, .int x3), (4, .int x4)] [] s := by
  refine Z_iload hC dX9_findOdds_45 rfl ?_
  refine Z_iconst (v := 1) hC dX9_findOdds_47 rfl ?_
  refine Z_iload_n hC dX9_findOdds_48 rfl rfl ?_
  refine Z_ishl hC dX9_findOdds_49 ?_
  refine Z_icmp_ge (tgt := 191) hC dX9_findOdds_50 (by decide) (fun c1 => ?_) (fun c1 => ?_)
  · have k := k.1 c1
    exact Z_vret hC dX9_findOdds_191 k.1 k.2
  · have k := k.2 c1
    refine Z_lconst (v := 1) hC dX9_findOdds_53 rfl ?_
    refine Z_lstore (V2 := [(5, .long 1), (0, .ref (ad 20 0)), (1, .int x1), (2, .int x2), (3, .int x3), (4, .int x4)]) hC dX9_findOdds_54 (by decide) rfl ?_
    refine Z_aload_n hC dX9_findOdds_56 rfl rfl ?_
    obtain ⟨s2, h3, k⟩ := k
    refine Z_callV (As := []) (rest := []) hC h3 cvX9_204 ⟨9, rfl, zs_9, _, rfl, rfl⟩ rfl rfl (Nat.le_of_ble_eq_true rfl) dX9_findOdds_57 ?_
    refine Z_aload_n hC dX9_findOdds_60 rfl rfl ?_
    obtain ⟨s4, h5, k⟩ := k
    refine Z_callV (As := []) (rest := []) hC h5 cvX9_194 ⟨9, rfl, zs_9, _, rfl, rfl⟩ rfl rfl (Nat.le_of_ble_eq_true rfl) dX9_findOdds_61 ?_
    refine Z_iconst (v := 0) hC dX9_findOdds_64 rfl ?_
    refine Z_istore (V2 := [(7, .int 0), (5, .long 1), (0, .ref (ad 20 0)), (1, .int x1), (2, .int x2), (3, .int x3), (4, .int x4)]) hC dX9_findOdds_65 (by decide) rfl ?_
    exact Z_pick [2, 3, 4, 5, 6, 1, 0] rfl k
set_option maxRecDepth 100000 in
set_option maxHeartbeats 4000000 in
theorem bX9_findOdds_67 {x1 : Int32} {x2 : Int32} {x3 : Int32} {x4 : Int32} {y5 : Int64} {x7 : Int32} {C : ZC} {X : Option Value} {Y : ZS} {s : ZS} (hC : Zok ad D ia C (d + 1) cX9_findOdds 9 RX9 none) (k : ((x2 ≤ x7 → ((x3 < ((s 20).1 19) → (∀ s3 : ZS, s3 = stL s 20 24 (((s 20).2.1 24) + 0) → (∀ s4 : ZS, s4 = stL s3 20 25 (((s3 20).2.1 25) + (y5 * (((s3 20).1 19).toInt64))) → Z l ad D ia C X Y 45 [(0, .ref (ad 20 0)), (1, .int x1), (2, .int x2), (3, .int x3), (4, .int (x4 + 1))] [] s4))) ∧ (¬ x3 < ((s 20).1 19) → (∀ s5 : ZS, s5 = stL s 20 24 (((s 20).2.1 24) + y5) → (∀ s6 : ZS, s6 = stL s5 20 25 (((s5 20).2.1 25) + (y5 * (((s5 20).1 19).toInt64))) → Z l ad D ia C X Y 45 [(0, .ref (ad 20 0)), (1, .int x1), (2, .int x2), (3, .int x3), (4, .int (x4 + 1))] [] s6))))) ∧ (¬ x2 ≤ x7 → ((¬ ((x4 >>> (x7 &&& 31)) &&& 1) = 1 → Z l ad D ia C X Y 89 [(0, .ref (ad 20 0)), (1, .int x1), (2, .int x2), (3, .int x3), (4, .int x4), (5, .long y5), (7, .int x7)] [.int 0] s) ∧ (((x4 >>> (x7 &&& 31)) &&& 1) = 1 → Z l ad D ia C X Y 89 [(0, .ref (ad 20 0)), (1, .int x1), (2, .int x2), (3, .int x3), (4, .int x4), (5, .long y5), (7, .int x7)] [.int 1] s))))) : Z l ad D ia C X Y 67 [(0, .ref (ad 20 0)), (1, .int x1), (2, .int x2), (3, .int x3), (4, .int x4), (5, .long y5), (7, .int x7)] [] s := by
  refine Z_iload hC dX9_findOdds_67 rfl ?_
  refine Z_iload_n hC dX9_findOdds_69 rfl rfl ?_
  refine Z_icmp_ge (tgt := 145) hC dX9_findOdds_70 (by decide) (fun c1 => ?_) (fun c1 => ?_)
  · have k := k.1 c1
    refine Z_aload_n hC dX9_findOdds_145 rfl rfl ?_
    refine Z_dup hC dX9_findOdds_146 rfl ?_
    refine Z_get (o := 20) (c := 9) (k := 24) (v := .long ((s 20).2.1 24)) hC rfl zs_9 lkX9_276 rfl dX9_findOdds_147 ?_
    refine Z_aload_n hC dX9_findOdds_150 rfl rfl ?_
    refine Z_get (o := 20) (c := 9) (k := 19) (v := .int ((s 20).1 19)) hC rfl zs_9 lkX9_165 rfl dX9_findOdds_151 ?_
    refine Z_iload_n hC dX9_findOdds_154 rfl rfl ?_
    refine Z_icmp_gt (tgt := 163) hC dX9_findOdds_155 (by decide) (fun c2 => ?_) (fun c2 => ?_)
    · have k := k.1 c2
      refine Z_lconst (v := 0) hC dX9_findOdds_163 rfl ?_
      refine Z_ladd hC dX9_findOdds_164 ?_
      refine Z_putL (o := 20) (k := 24) hC rfl zs_9 pkX9_276 rfl rfl (hsX9_24 _ _ _) dX9_findOdds_165 (fun s3 es3 => ?_)
      have k := k s3 es3
      refine Z_aload_n hC dX9_findOdds_168 rfl rfl ?_
      refine Z_dup hC dX9_findOdds_169 rfl ?_
      refine Z_get (o := 20) (c := 9) (k := 25) (v := .long ((s3 20).2.1 25)) hC rfl zs_9 lkX9_280 rfl dX9_findOdds_170 ?_
      refine Z_lload hC dX9_findOdds_173 rfl ?_
      refine Z_aload_n hC dX9_findOdds_175 rfl rfl ?_
      refine Z_get (o := 20) (c := 9) (k := 19) (v := .int ((s3 20).1 19)) hC rfl zs_9 lkX9_165 rfl dX9_findOdds_176 ?_
      refine Z_i2l hC dX9_findOdds_179 ?_
      refine Z_lmul hC dX9_findOdds_180 ?_
      refine Z_ladd hC dX9_findOdds_181 ?_
      refine Z_putL (o := 20) (k := 25) hC rfl zs_9 pkX9_280 rfl rfl (hsX9_25 _ _ _) dX9_findOdds_182 (fun s4 es4 => ?_)
      have k := k s4 es4
      refine Z_iinc (v := x4 + 1) (V2 := [(4, .int (x4 + 1)), (0, .ref (ad 20 0)), (1, .int x1), (2, .int x2), (3, .int x3), (5, .long y5), (7, .int x7)]) hC dX9_findOdds_185 rfl rfl (by decide) rfl ?_
      refine Z_goto (tgt := 45) hC dX9_findOdds_188 (by decide) ?_
      exact Z_pick [1, 2, 3, 4, 0] rfl k
    · have k := k.2 c2
      refine Z_lload hC dX9_findOdds_158 rfl ?_
      refine Z_goto (tgt := 164) hC dX9_findOdds_160 (by decide) ?_
      refine Z_ladd hC dX9_findOdds_164 ?_
      refine Z_putL (o := 20) (k := 24) hC rfl zs_9 pkX9_276 rfl rfl (hsX9_24 _ _ _) dX9_findOdds_165 (fun s5 es5 => ?_)
      have k := k s5 es5
      refine Z_aload_n hC dX9_findOdds_168 rfl rfl ?_
      refine Z_dup hC dX9_findOdds_169 rfl ?_
      refine Z_get (o := 20) (c := 9) (k := 25) (v := .long ((s5 20).2.1 25)) hC rfl zs_9 lkX9_280 rfl dX9_findOdds_170 ?_
      refine Z_lload hC dX9_findOdds_173 rfl ?_
      refine Z_aload_n hC dX9_findOdds_175 rfl rfl ?_
      refine Z_get (o := 20) (c := 9) (k := 19) (v := .int ((s5 20).1 19)) hC rfl zs_9 lkX9_165 rfl dX9_findOdds_176 ?_
      refine Z_i2l hC dX9_findOdds_179 ?_
      refine Z_lmul hC dX9_findOdds_180 ?_
      refine Z_ladd hC dX9_findOdds_181 ?_
      refine Z_putL (o := 20) (k := 25) hC rfl zs_9 pkX9_280 rfl rfl (hsX9_25 _ _ _) dX9_findOdds_182 (fun s6 es6 => ?_)
      have k := k s6 es6
      refine Z_iinc (v := x4 + 1) (V2 := [(4, .int (x4 + 1)), (0, .ref (ad 20 0)), (1, .int x1), (2, .int x2), (3, .int x3), (5, .long y5), (7, .int x7)]) hC dX9_findOdds_185 rfl rfl (by decide) rfl ?_
      refine Z_goto (tgt := 45) hC dX9_findOdds_188 (by decide) ?_
      exact Z_pick [1, 2, 3, 4, 0] rfl k
  · have k := k.2 c1
    refine Z_iload hC dX9_findOdds_73 rfl ?_
    refine Z_iload hC dX9_findOdds_75 rfl ?_
    refine Z_ishr hC dX9_findOdds_77 ?_
    refine Z_iconst (v := 1) hC dX9_findOdds_78 rfl ?_
    refine Z_iand hC dX9_findOdds_79 ?_
    refine Z_iconst (v := 1) hC dX9_findOdds_80 rfl ?_
    refine Z_icmp_ne (tgt := 88) hC dX9_findOdds_81 (by decide) (fun c7 => ?_) (fun c7 => ?_)
    · have k := k.1 c7
      refine Z_iconst (v := 0) hC dX9_findOdds_88 rfl ?_
      exact k
    · have k := k.2 c7
      refine Z_iconst (v := 1) hC dX9_findOdds_84 rfl ?_
      refine Z_goto (tgt := 89) hC dX9_findOdds_85 (by decide) ?_
      exact k
set_option maxRecDepth 100000 in
set_option maxHeartbeats 4000000 in
theorem bX9_findOdds_89 {x1 : Int32} {x2 : Int32} {x3 : Int32} {x4 : Int32} {y5 : Int64} {x7 : Int32} {t0 : Int32} {C : ZC} {X : Option Value} {Y : ZS} {s : ZS} (hC : Zok ad D ia C (d + 1) cX9_findOdds 9 RX9 none) (k : ((t0 = 0 → ((t0 = 0 → (vp_in 40 62 ∧ (vp_in 40 62 ∧ (∀ s5 : ZS, s5 = stA s 20 1 (40 : Int32).toNatClampNeg ((s 20).2.2 1 (40 : Int32).toNatClampNeg) → (∃ s6 : ZS, Ev l ad D ia d mX9_dayGoes [.ref (ad 20 0)] s5 none s6 ∧ Z l ad D ia C X Y 67 [(0, .ref (ad 20 0)), (1, .int x1), (2, .int x2), (3, .int x3), (4, .int x4), (5, .long (y5 * ((10 - x1).toInt64))), (7, .int (x7 + 1))] [] s6))))) ∧ (¬ t0 = 0 → (vp_in 40 62 ∧ (∀ s9 : ZS, s9 = stA s 20 1 (40 : Int32).toNatClampNeg 7 → (∃ s10 : ZS, Ev l ad D ia d mX9_dayGoes [.ref (ad 20 0)] s9 none s10 ∧ Z l ad D ia C X Y 67 [(0, .ref (ad 20 0)), (1, .int x1), (2, .int x2), (3, .int x3), (4, .int x4), (5, .long (y5 * ((10 - x1).toInt64))), (7, .int (x7 + 1))] [] s10)))))) ∧ (¬ t0 = 0 → ((t0 = 0 → (vp_in 40 62 ∧ (vp_in 40 62 ∧ (∀ s15 : ZS, s15 = stA s 20 1 (40 : Int32).toNatClampNeg ((s 20).2.2 1 (40 : Int32).toNatClampNeg) → (∃ s16 : ZS, Ev l ad D ia d mX9_dayGoes [.ref (ad 20 0)] s15 none s16 ∧ Z l ad D ia C X Y 67 [(0, .ref (ad 20 0)), (1, .int x1), (2, .int x2), (3, .int x3), (4, .int x4), (5, .long (y5 * x1.toInt64)), (7, .int (x7 + 1))] [] s16))))) ∧ (¬ t0 = 0 → (vp_in 40 62 ∧ (∀ s19 : ZS, s19 = stA s 20 1 (40 : Int32).toNatClampNeg 7 → (∃ s20 : ZS, Ev l ad D ia d mX9_dayGoes [.ref (ad 20 0)] s19 none s20 ∧ Z l ad D ia C X Y 67 [(0, .ref (ad 20 0)), (1, .int x1), (2, .int x2), (3, .int x3), (4, .int x4), (5, .long (y5 * x1.toInt64)), (7, .int (x7 + 1))] [] s20)))))))) : Z l ad D ia C X Y 89 [(0, .ref (ad 20 0)), (1, .int x1), (2, .int x2), (3, .int x3), (4, .int x4), (5, .long y5), (7, .int x7)] [.int t0] s := by
  refine Z_istore (V2 := [(8, .int t0), (0, .ref (ad 20 0)), (1, .int x1), (2, .int x2), (3, .int x3), (4, .int x4), (5, .long y5), (7, .int x7)]) hC dX9_findOdds_89 (by decide) rfl ?_
  refine Z_lload hC dX9_findOdds_91 rfl ?_
  refine Z_iload hC dX9_findOdds_93 rfl ?_
  refine Z_if_eq (tgt := 103) hC dX9_findOdds_95 (by decide) (fun c1 => ?_) (fun c1 => ?_)
  · have k := k.1 c1
    refine Z_bipush (v := 10) hC dX9_findOdds_103 rfl ?_
    refine Z_iload_n hC dX9_findOdds_105 rfl rfl ?_
    refine Z_isub hC dX9_findOdds_106 ?_
    refine Z_i2l hC dX9_findOdds_107 ?_
    refine Z_lmul hC dX9_findOdds_108 ?_
    refine Z_lstore (V2 := [(5, .long (y5 * ((10 - x1).toInt64))), (8, .int t0), (0, .ref (ad 20 0)), (1, .int x1), (2, .int x2), (3, .int x3), (4, .int x4), (7, .int x7)]) hC dX9_findOdds_109 (by decide) rfl ?_
    refine Z_aload_n hC dX9_findOdds_111 rfl rfl ?_
    refine Z_get (o := 20) (c := 9) (k := 1) (v := .ref (ad 20 2)) hC rfl zs_9 lkX9_13 rfl dX9_findOdds_112 ?_
    refine Z_bipush (v := 40) hC dX9_findOdds_115 rfl ?_
    refine Z_iload hC dX9_findOdds_117 rfl ?_
    refine Z_if_eq (tgt := 127) hC dX9_findOdds_119 (by decide) (fun c2 => ?_) (fun c2 => ?_)
    · have k := k.1 c2
      refine Z_aload_n hC dX9_findOdds_127 rfl rfl ?_
      refine Z_get (o := 20) (c := 9) (k := 1) (v := .ref (ad 20 2)) hC rfl zs_9 lkX9_13 rfl dX9_findOdds_128 ?_
      refine Z_bipush (v := 40) hC dX9_findOdds_131 rfl ?_
      obtain ⟨h3, k⟩ := k
      refine Z_iald (o := 20) (k := 1) hC (zis_of rfl rfl) h3 dX9_findOdds_133 ?_
      obtain ⟨h4, k⟩ := k
      refine Z_iast2 (o := 20) (k := 1) hC (zis_of rfl rfl) h4 dX9_findOdds_134 (fun s5 es5 => ?_)
      have k := k s5 es5
      refine Z_aload_n hC dX9_findOdds_135 rfl rfl ?_
      obtain ⟨s6, h7, k⟩ := k
      refine Z_callV (As := []) (rest := []) hC h7 cvX9_197 ⟨9, rfl, zs_9, _, rfl, rfl⟩ rfl rfl (Nat.le_of_ble_eq_true rfl) dX9_findOdds_136 ?_
      refine Z_iinc (v := x7 + 1) (V2 := [(7, .int (x7 + 1)), (5, .long (y5 * ((10 - x1).toInt64))), (8, .int t0), (0, .ref (ad 20 0)), (1, .int x1), (2, .int x2), (3, .int x3), (4, .int x4)]) hC dX9_findOdds_139 rfl rfl (by decide) rfl ?_
      refine Z_goto (tgt := 67) hC dX9_findOdds_142 (by decide) ?_
      exact Z_pick [3, 4, 5, 6, 7, 1, 0] rfl k
    · have k := k.2 c2
      refine Z_bipush (v := 7) hC dX9_findOdds_122 rfl ?_
      refine Z_goto (tgt := 134) hC dX9_findOdds_124 (by decide) ?_
      obtain ⟨h8, k⟩ := k
      refine Z_iast2 (o := 20) (k := 1) hC (zis_of rfl rfl) h8 dX9_findOdds_134 (fun s9 es9 => ?_)
      have k := k s9 es9
      refine Z_aload_n hC dX9_findOdds_135 rfl rfl ?_
      obtain ⟨s10, h11, k⟩ := k
      refine Z_callV (As := []) (rest := []) hC h11 cvX9_197 ⟨9, rfl, zs_9, _, rfl, rfl⟩ rfl rfl (Nat.le_of_ble_eq_true rfl) dX9_findOdds_136 ?_
      refine Z_iinc (v := x7 + 1) (V2 := [(7, .int (x7 + 1)), (5, .long (y5 * ((10 - x1).toInt64))), (8, .int t0), (0, .ref (ad 20 0)), (1, .int x1), (2, .int x2), (3, .int x3), (4, .int x4)]) hC dX9_findOdds_139 rfl rfl (by decide) rfl ?_
      refine Z_goto (tgt := 67) hC dX9_findOdds_142 (by decide) ?_
      exact Z_pick [3, 4, 5, 6, 7, 1, 0] rfl k
  · have k := k.2 c1
    refine Z_iload_n hC dX9_findOdds_98 rfl rfl ?_
    refine Z_i2l hC dX9_findOdds_99 ?_
    refine Z_goto (tgt := 108) hC dX9_findOdds_100 (by decide) ?_
    refine Z_lmul hC dX9_findOdds_108 ?_
    refine Z_lstore (V2 := [(5, .long (y5 * x1.toInt64)), (8, .int t0), (0, .ref (ad 20 0)), (1, .int x1), (2, .int x2), (3, .int x3), (4, .int x4), (7, .int x7)]) hC dX9_findOdds_109 (by decide) rfl ?_
    refine Z_aload_n hC dX9_findOdds_111 rfl rfl ?_
    refine Z_get (o := 20) (c := 9) (k := 1) (v := .ref (ad 20 2)) hC rfl zs_9 lkX9_13 rfl dX9_findOdds_112 ?_
    refine Z_bipush (v := 40) hC dX9_findOdds_115 rfl ?_
    refine Z_iload hC dX9_findOdds_117 rfl ?_
    refine Z_if_eq (tgt := 127) hC dX9_findOdds_119 (by decide) (fun c12 => ?_) (fun c12 => ?_)
    · have k := k.1 c12
      refine Z_aload_n hC dX9_findOdds_127 rfl rfl ?_
      refine Z_get (o := 20) (c := 9) (k := 1) (v := .ref (ad 20 2)) hC rfl zs_9 lkX9_13 rfl dX9_findOdds_128 ?_
      refine Z_bipush (v := 40) hC dX9_findOdds_131 rfl ?_
      obtain ⟨h13, k⟩ := k
      refine Z_iald (o := 20) (k := 1) hC (zis_of rfl rfl) h13 dX9_findOdds_133 ?_
      obtain ⟨h14, k⟩ := k
      refine Z_iast2 (o := 20) (k := 1) hC (zis_of rfl rfl) h14 dX9_findOdds_134 (fun s15 es15 => ?_)
      have k := k s15 es15
      refine Z_aload_n hC dX9_findOdds_135 rfl rfl ?_
      obtain ⟨s16, h17, k⟩ := k
      refine Z_callV (As := []) (rest := []) hC h17 cvX9_197 ⟨9, rfl, zs_9, _, rfl, rfl⟩ rfl rfl (Nat.le_of_ble_eq_true rfl) dX9_findOdds_136 ?_
      refine Z_iinc (v := x7 + 1) (V2 := [(7, .int (x7 + 1)), (5, .long (y5 * x1.toInt64)), (8, .int t0), (0, .ref (ad 20 0)), (1, .int x1), (2, .int x2), (3, .int x3), (4, .int x4)]) hC dX9_findOdds_139 rfl rfl (by decide) rfl ?_
      refine Z_goto (tgt := 67) hC dX9_findOdds_142 (by decide) ?_
      exact Z_pick [3, 4, 5, 6, 7, 1, 0] rfl k
    · have k := k.2 c12
      refine Z_bipush (v := 7) hC dX9_findOdds_122 rfl ?_
      refine Z_goto (tgt := 134) hC dX9_findOdds_124 (by decide) ?_
      obtain ⟨h18, k⟩ := k
      refine Z_iast2 (o := 20) (k := 1) hC (zis_of rfl rfl) h18 dX9_findOdds_134 (fun s19 es19 => ?_)
      have k := k s19 es19
      refine Z_aload_n hC dX9_findOdds_135 rfl rfl ?_
      obtain ⟨s20, h21, k⟩ := k
      refine Z_callV (As := []) (rest := []) hC h21 cvX9_197 ⟨9, rfl, zs_9, _, rfl, rfl⟩ rfl rfl (Nat.le_of_ble_eq_true rfl) dX9_findOdds_136 ?_
      refine Z_iinc (v := x7 + 1) (V2 := [(7, .int (x7 + 1)), (5, .long (y5 * x1.toInt64)), (8, .int t0), (0, .ref (ad 20 0)), (1, .int x1), (2, .int x2), (3, .int x3), (4, .int x4)]) hC dX9_findOdds_139 rfl rfl (by decide) rfl ?_
      refine Z_goto (tgt := 67) hC dX9_findOdds_142 (by decide) ?_
      exact Z_pick [3, 4, 5, 6, 7, 1, 0] rfl k
set_option maxRecDepth 100000 in
set_option maxHeartbeats 4000000 in
theorem bX9_luck_0 {x1 : Int32} {x2 : Int32} {x3 : Int32} {x4 : Int32} {C : ZC} {X : Option Value} {Y : ZS} {s : ZS} (hC : Zok ad D ia C (d + 1) cX9_luck 5 RX9 (some .long)) (k : (∃ (r2 : Int32) (s1 : ZS), Ev l ad D ia d mX9_in [.long x1.toInt64, .long 0, .long ((10))] s (some (.int r2)) s1 ∧ ((r2 = 0 → (X = some (.long ((-1))) ∧ Y = s1)) ∧ (¬ r2 = 0 → (∃ (r6 : Int32) (s5 : ZS), Ev l ad D ia d mX9_in [.long x2.toInt64, .long 0, .long ((8))] s1 (some (.int r6)) s5 ∧ ((r6 = 0 → (X = some (.long ((-1))) ∧ Y = s5)) ∧ (¬ r6 = 0 → (∃ (r10 : Int32) (s9 : ZS), Ev l ad D ia d mX9_in [.long x3.toInt64, .long 0, .long ((9999))] s5 (some (.int r10)) s9 ∧ ((r10 = 0 → (X = some (.long ((-1))) ∧ Y = s9)) ∧ (¬ r10 = 0 → (∃ (r14 : Int32) (s13 : ZS), Ev l ad D ia d mX9_isPart [.int x4] s9 (some (.int r14)) s13 ∧ ((¬ r14 = 0 → (∃ s17 : ZS, Ev l ad D ia d mX9_findOdds [.ref (ad 20 0), .int x1, .int x2, .int x3] s13 none s17 ∧ (∃ (r20 : Int64) (s19 : ZS), Ev l ad D ia d mX9_told [.long ((s17 20).2.1 24), .long ((s17 20).2.1 26), .int x4] s17 (some (.long r20)) s19 ∧ (X = some (.long r20) ∧ Y = s19)))) ∧ (r14 = 0 → (X = some (.long ((-1))) ∧ Y = s13)))))))))))))) : Z l ad D ia C X Y 0 [(0, .ref (ad 20 0)), (1, .int x1), (2, .int x2), (3, .int x3), (4, .int x4)] [] s := by
  refine Z_iload_n hC dX9_luck_0 rfl rfl ?_
  refine Z_i2l hC dX9_luck_1 ?_
  refine Z_lconst (v := 0) hC dX9_luck_2 rfl ?_
  refine Z_ldc2 hC clX9_286 dX9_luck_3 ?_
  obtain ⟨r2, s1, h3, k⟩ := k
  refine Z_callS (As := [.long x1.toInt64, .long 0, .long ((10))]) (rest := []) hC h3 csX9_78 rfl rfl (Nat.le_of_ble_eq_true rfl) dX9_luck_6 ?_
  refine Z_if_eq (tgt := 44) hC dX9_luck_9 (by decide) (fun c4 => ?_) (fun c4 => ?_)
  · have k := k.1 c4
    refine Z_ldc2 hC clX9_292 dX9_luck_44 ?_
    exact Z_lret hC dX9_luck_47 k.1 k.2
  · have k := k.2 c4
    refine Z_iload_n hC dX9_luck_12 rfl rfl ?_
    refine Z_i2l hC dX9_luck_13 ?_
    refine Z_lconst (v := 0) hC dX9_luck_14 rfl ?_
    refine Z_ldc2 hC clX9_288 dX9_luck_15 ?_
    obtain ⟨r6, s5, h7, k⟩ := k
    refine Z_callS (As := [.long x2.toInt64, .long 0, .long ((8))]) (rest := []) hC h7 csX9_78 rfl rfl (Nat.le_of_ble_eq_true rfl) dX9_luck_18 ?_
    refine Z_if_eq (tgt := 44) hC dX9_luck_21 (by decide) (fun c8 => ?_) (fun c8 => ?_)
    · have k := k.1 c8
      refine Z_ldc2 hC clX9_292 dX9_luck_44 ?_
      exact Z_lret hC dX9_luck_47 k.1 k.2
    · have k := k.2 c8
      refine Z_iload_n hC dX9_luck_24 rfl rfl ?_
      refine Z_i2l hC dX9_luck_25 ?_
      refine Z_lconst (v := 0) hC dX9_luck_26 rfl ?_
      refine Z_ldc2 hC clX9_290 dX9_luck_27 ?_
      obtain ⟨r10, s9, h11, k⟩ := k
      refine Z_callS (As := [.long x3.toInt64, .long 0, .long ((9999))]) (rest := []) hC h11 csX9_78 rfl rfl (Nat.le_of_ble_eq_true rfl) dX9_luck_30 ?_
      refine Z_if_eq (tgt := 44) hC dX9_luck_33 (by decide) (fun c12 => ?_) (fun c12 => ?_)
      · have k := k.1 c12
        refine Z_ldc2 hC clX9_292 dX9_luck_44 ?_
        exact Z_lret hC dX9_luck_47 k.1 k.2
      · have k := k.2 c12
        refine Z_iload hC dX9_luck_36 rfl ?_
        obtain ⟨r14, s13, h15, k⟩ := k
        refine Z_callS (As := [.int x4]) (rest := []) hC h15 csX9_253 rfl rfl (Nat.le_of_ble_eq_true rfl) dX9_luck_38 ?_
        refine Z_if_ne (tgt := 48) hC dX9_luck_41 (by decide) (fun c16 => ?_) (fun c16 => ?_)
        · have k := k.1 c16
          refine Z_aload_n hC dX9_luck_48 rfl rfl ?_
          refine Z_iload_n hC dX9_luck_49 rfl rfl ?_
          refine Z_iload_n hC dX9_luck_50 rfl rfl ?_
          refine Z_iload_n hC dX9_luck_51 rfl rfl ?_
          obtain ⟨s17, h18, k⟩ := k
          refine Z_callV (As := [.int x1, .int x2, .int x3]) (rest := []) hC h18 cvX9_294 ⟨9, rfl, zs_9, _, rfl, rfl⟩ rfl rfl (Nat.le_of_ble_eq_true rfl) dX9_luck_52 ?_
          refine Z_aload_n hC dX9_luck_55 rfl rfl ?_
          refine Z_get (o := 20) (c := 9) (k := 24) (v := .long ((s17 20).2.1 24)) hC rfl zs_9 lkX9_276 rfl dX9_luck_56 ?_
          refine Z_aload_n hC dX9_luck_59 rfl rfl ?_
          refine Z_get (o := 20) (c := 9) (k := 26) (v := .long ((s17 20).2.1 26)) hC rfl zs_9 lkX9_283 rfl dX9_luck_60 ?_
          refine Z_iload hC dX9_luck_63 rfl ?_
          obtain ⟨r20, s19, h21, k⟩ := k
          refine Z_callS (As := [.long ((s17 20).2.1 24), .long ((s17 20).2.1 26), .int x4]) (rest := []) hC h21 csX9_297 rfl rfl (Nat.le_of_ble_eq_true rfl) dX9_luck_65 ?_
          exact Z_lret hC dX9_luck_68 k.1 k.2
        · have k := k.2 c16
          refine Z_ldc2 hC clX9_292 dX9_luck_44 ?_
          exact Z_lret hC dX9_luck_47 k.1 k.2
theorem eX9_luck {x1 : Int32} {x2 : Int32} {x3 : Int32} {x4 : Int32} {X : Option Value} {Y : ZS} {s : ZS} (k : (∃ (r2 : Int32) (s1 : ZS), Ev l ad D ia d mX9_in [.long x1.toInt64, .long 0, .long ((10))] s (some (.int r2)) s1 ∧ ((r2 = 0 → (X = some (.long ((-1))) ∧ Y = s1)) ∧ (¬ r2 = 0 → (∃ (r6 : Int32) (s5 : ZS), Ev l ad D ia d mX9_in [.long x2.toInt64, .long 0, .long ((8))] s1 (some (.int r6)) s5 ∧ ((r6 = 0 → (X = some (.long ((-1))) ∧ Y = s5)) ∧ (¬ r6 = 0 → (∃ (r10 : Int32) (s9 : ZS), Ev l ad D ia d mX9_in [.long x3.toInt64, .long 0, .long ((9999))] s5 (some (.int r10)) s9 ∧ ((r10 = 0 → (X = some (.long ((-1))) ∧ Y = s9)) ∧ (¬ r10 = 0 → (∃ (r14 : Int32) (s13 : ZS), Ev l ad D ia d mX9_isPart [.int x4] s9 (some (.int r14)) s13 ∧ ((¬ r14 = 0 → (∃ s17 : ZS, Ev l ad D ia d mX9_findOdds [.ref (ad 20 0), .int x1, .int x2, .int x3] s13 none s17 ∧ (∃ (r20 : Int64) (s19 : ZS), Ev l ad D ia d mX9_told [.long ((s17 20).2.1 24), .long ((s17 20).2.1 26), .int x4] s17 (some (.long r20)) s19 ∧ (X = some (.long r20) ∧ Y = s19)))) ∧ (r14 = 0 → (X = some (.long ((-1))) ∧ Y = s13)))))))))))))) : Ev l ad D ia (d + 1) mX9_luck [.ref (ad 20 0), .int x1, .int x2, .int x3, .int x4] s X Y :=
  Ev.start (by decide +kernel) (Nat.le_of_ble_eq_true rfl) (fun C hC => bX9_luck_0  hC k)
set_option maxRecDepth 100000 in
set_option maxHeartbeats 4000000 in
theorem bX9_mean_0 {x1 : Int32} {x2 : Int32} {x3 : Int32} {C : ZC} {X : Option Value} {Y : ZS} {s : ZS} (hC : Zok ad D ia C (d + 1) cX9_mean 4 RX9 (some .long)) (k : (∃ (r2 : Int32) (s1 : ZS), Ev l ad D ia d mX9_in [.long x1.toInt64, .long 0, .long ((10))] s (some (.int r2)) s1 ∧ ((r2 = 0 → (X = some (.long ((-1))) ∧ Y = s1)) ∧ (¬ r2 = 0 → (∃ (r6 : Int32) (s5 : ZS), Ev l ad D ia d mX9_in [.long x2.toInt64, .long 0, .long ((8))] s1 (some (.int r6)) s5 ∧ ((r6 = 0 → (X = some (.long ((-1))) ∧ Y = s5)) ∧ (¬ r6 = 0 → (∃ (r10 : Int32) (s9 : ZS), Ev l ad D ia d mX9_isPart [.int x3] s5 (some (.int r10)) s9 ∧ ((¬ r10 = 0 → (∃ s13 : ZS, Ev l ad D ia d mX9_findOdds [.ref (ad 20 0), .int x1, .int x2, .int 0] s9 none s13 ∧ (∃ (r16 : Int64) (s15 : ZS), Ev l ad D ia d mX9_told [.long ((s13 20).2.1 25), .long ((s13 20).2.1 26), .int x3] s13 (some (.long r16)) s15 ∧ (X = some (.long r16) ∧ Y = s15)))) ∧ (r10 = 0 → (X = some (.long ((-1))) ∧ Y = s9))))))))))) : Z l ad D ia C X Y 0 [(0, .ref (ad 20 0)), (1, .int x1), (2, .int x2), (3, .int x3)] [] s := by
  refine Z_iload_n hC dX9_mean_0 rfl rfl ?_
  refine Z_i2l hC dX9_mean_1 ?_
  refine Z_lconst (v := 0) hC dX9_mean_2 rfl ?_
  refine Z_ldc2 hC clX9_286 dX9_mean_3 ?_
  obtain ⟨r2, s1, h3, k⟩ := k
  refine Z_callS (As := [.long x1.toInt64, .long 0, .long ((10))]) (rest := []) hC h3 csX9_78 rfl rfl (Nat.le_of_ble_eq_true rfl) dX9_mean_6 ?_
  refine Z_if_eq (tgt := 31) hC dX9_mean_9 (by decide) (fun c4 => ?_) (fun c4 => ?_)
  · have k := k.1 c4
    refine Z_ldc2 hC clX9_292 dX9_mean_31 ?_
    exact Z_lret hC dX9_mean_34 k.1 k.2
  · have k := k.2 c4
    refine Z_iload_n hC dX9_mean_12 rfl rfl ?_
    refine Z_i2l hC dX9_mean_13 ?_
    refine Z_lconst (v := 0) hC dX9_mean_14 rfl ?_
    refine Z_ldc2 hC clX9_288 dX9_mean_15 ?_
    obtain ⟨r6, s5, h7, k⟩ := k
    refine Z_callS (As := [.long x2.toInt64, .long 0, .long ((8))]) (rest := []) hC h7 csX9_78 rfl rfl (Nat.le_of_ble_eq_true rfl) dX9_mean_18 ?_
    refine Z_if_eq (tgt := 31) hC dX9_mean_21 (by decide) (fun c8 => ?_) (fun c8 => ?_)
    · have k := k.1 c8
      refine Z_ldc2 hC clX9_292 dX9_mean_31 ?_
      exact Z_lret hC dX9_mean_34 k.1 k.2
    · have k := k.2 c8
      refine Z_iload_n hC dX9_mean_24 rfl rfl ?_
      obtain ⟨r10, s9, h11, k⟩ := k
      refine Z_callS (As := [.int x3]) (rest := []) hC h11 csX9_253 rfl rfl (Nat.le_of_ble_eq_true rfl) dX9_mean_25 ?_
      refine Z_if_ne (tgt := 35) hC dX9_mean_28 (by decide) (fun c12 => ?_) (fun c12 => ?_)
      · have k := k.1 c12
        refine Z_aload_n hC dX9_mean_35 rfl rfl ?_
        refine Z_iload_n hC dX9_mean_36 rfl rfl ?_
        refine Z_iload_n hC dX9_mean_37 rfl rfl ?_
        refine Z_iconst (v := 0) hC dX9_mean_38 rfl ?_
        obtain ⟨s13, h14, k⟩ := k
        refine Z_callV (As := [.int x1, .int x2, .int 0]) (rest := []) hC h14 cvX9_294 ⟨9, rfl, zs_9, _, rfl, rfl⟩ rfl rfl (Nat.le_of_ble_eq_true rfl) dX9_mean_39 ?_
        refine Z_aload_n hC dX9_mean_42 rfl rfl ?_
        refine Z_get (o := 20) (c := 9) (k := 25) (v := .long ((s13 20).2.1 25)) hC rfl zs_9 lkX9_280 rfl dX9_mean_43 ?_
        refine Z_aload_n hC dX9_mean_46 rfl rfl ?_
        refine Z_get (o := 20) (c := 9) (k := 26) (v := .long ((s13 20).2.1 26)) hC rfl zs_9 lkX9_283 rfl dX9_mean_47 ?_
        refine Z_iload_n hC dX9_mean_50 rfl rfl ?_
        obtain ⟨r16, s15, h17, k⟩ := k
        refine Z_callS (As := [.long ((s13 20).2.1 25), .long ((s13 20).2.1 26), .int x3]) (rest := []) hC h17 csX9_297 rfl rfl (Nat.le_of_ble_eq_true rfl) dX9_mean_51 ?_
        exact Z_lret hC dX9_mean_54 k.1 k.2
      · have k := k.2 c12
        refine Z_ldc2 hC clX9_292 dX9_mean_31 ?_
        exact Z_lret hC dX9_mean_34 k.1 k.2
theorem eX9_mean {x1 : Int32} {x2 : Int32} {x3 : Int32} {X : Option Value} {Y : ZS} {s : ZS} (k : (∃ (r2 : Int32) (s1 : ZS), Ev l ad D ia d mX9_in [.long x1.toInt64, .long 0, .long ((10))] s (some (.int r2)) s1 ∧ ((r2 = 0 → (X = some (.long ((-1))) ∧ Y = s1)) ∧ (¬ r2 = 0 → (∃ (r6 : Int32) (s5 : ZS), Ev l ad D ia d mX9_in [.long x2.toInt64, .long 0, .long ((8))] s1 (some (.int r6)) s5 ∧ ((r6 = 0 → (X = some (.long ((-1))) ∧ Y = s5)) ∧ (¬ r6 = 0 → (∃ (r10 : Int32) (s9 : ZS), Ev l ad D ia d mX9_isPart [.int x3] s5 (some (.int r10)) s9 ∧ ((¬ r10 = 0 → (∃ s13 : ZS, Ev l ad D ia d mX9_findOdds [.ref (ad 20 0), .int x1, .int x2, .int 0] s9 none s13 ∧ (∃ (r16 : Int64) (s15 : ZS), Ev l ad D ia d mX9_told [.long ((s13 20).2.1 25), .long ((s13 20).2.1 26), .int x3] s13 (some (.long r16)) s15 ∧ (X = some (.long r16) ∧ Y = s15)))) ∧ (r10 = 0 → (X = some (.long ((-1))) ∧ Y = s9))))))))))) : Ev l ad D ia (d + 1) mX9_mean [.ref (ad 20 0), .int x1, .int x2, .int x3] s X Y :=
  Ev.start (by decide +kernel) (Nat.le_of_ble_eq_true rfl) (fun C hC => bX9_mean_0  hC k)
set_option maxRecDepth 100000 in
set_option maxHeartbeats 4000000 in
theorem bX9_see_0 {x1 : Int32} {x2 : Int32} {x3 : Int32} {C : ZC} {X : Option Value} {Y : ZS} {s : ZS} (hC : Zok ad D ia C (d + 1) cX9_see 5 RX9 (some .int)) (k : (∃ (r2 : Int32) (s1 : ZS), Ev l ad D ia d mX9_in [.long x1.toInt64, .long 0, .long ((20))] s (some (.int r2)) s1 ∧ ((r2 = 0 → (X = some (.int ((-1))) ∧ Y = s1)) ∧ (¬ r2 = 0 → (∃ (r6 : Int32) (s5 : ZS), Ev l ad D ia d mX9_isReader [.ref (ad 20 0), .int x2] s1 (some (.int r6)) s5 ∧ ((r6 = 0 → (X = some (.int ((-1))) ∧ Y = s5)) ∧ (¬ r6 = 0 → (∃ (r10 : Int32) (s9 : ZS), Ev l ad D ia d mX9_in [.long x3.toInt64, .long 0, .long ((9))] s5 (some (.int r10)) s9 ∧ ((r10 = 0 → (X = some (.int ((-1))) ∧ Y = s9)) ∧ (¬ r10 = 0 → ((¬ x3 = 8 → (vp_in 43 186 ∧ ((¬ ((s9 20).2.2 0 (43 : Int32).toNatClampNeg) = 6 → (vp_in 43 186 ∧ (vp_in (44 + (3 * ((s9 20).2.2 0 (43 : Int32).toNatClampNeg))) 186 ∧ (∀ s18 : ZS, s18 = stA s9 20 0 (44 + (3 * ((s9 20).2.2 0 (43 : Int32).toNatClampNeg))).toNatClampNeg x1 → (vp_in ((44 + (3 * ((s9 20).2.2 0 (43 : Int32).toNatClampNeg))) + 1) 186 ∧ (∀ s20 : ZS, s20 = stA s18 20 0 ((44 + (3 * ((s9 20).2.2 0 (43 : Int32).toNatClampNeg))) + 1).toNatClampNeg x2 → (∃ (r22 : Int32) (s21 : ZS), Ev l ad D ia d mX9_asKept [.int x3] s20 (some (.int r22)) s21 ∧ (vp_in ((44 + (3 * ((s9 20).2.2 0 (43 : Int32).toNatClampNeg))) + 2) 186 ∧ (∀ s25 : ZS, s25 = stA s21 20 0 ((44 + (3 * ((s9 20).2.2 0 (43 : Int32).toNatClampNeg))) + 2).toNatClampNeg r22 → (vp_in 43 186 ∧ (vp_in 43 186 ∧ (∀ s28 : ZS, s28 = stA s25 20 0 (43 : Int32).toNatClampNeg (((s25 20).2.2 0 (43 : Int32).toNatClampNeg) + 1) → (vp_in 43 186 ∧ (X = some (.int ((s28 20).2.2 0 (43 : Int32).toNatClampNeg)) ∧ Y = s28)))))))))))))) ∧ (((s9 20).2.2 0 (43 : Int32).toNatClampNeg) = 6 → (X = some (.int ((-3))) ∧ Y = s9))))) ∧ (x3 = 8 → (X = some (.int ((-1))) ∧ Y = s9))))))))))))) : Z l ad D ia C X Y 0 [(0, .ref (ad 20 0)), (1, .int x1), (2, .int x2), (3, .int x3)] [] s := by
  refine Z_iload_n hC dX9_see_0 rfl rfl ?_
  refine Z_i2l hC dX9_see_1 ?_
  refine Z_lconst (v := 0) hC dX9_see_2 rfl ?_
  refine Z_ldc2 hC clX9_301 dX9_see_3 ?_
  obtain ⟨r2, s1, h3, k⟩ := k
  refine Z_callS (As := [.long x1.toInt64, .long 0, .long ((20))]) (rest := []) hC h3 csX9_78 rfl rfl (Nat.le_of_ble_eq_true rfl) dX9_see_6 ?_
  refine Z_if_eq (tgt := 38) hC dX9_see_9 (by decide) (fun c4 => ?_) (fun c4 => ?_)
  · have k := k.1 c4
    refine Z_iconst (v := (-1)) hC dX9_see_38 rfl ?_
    exact Z_iret hC dX9_see_39 k.1 k.2
  · have k := k.2 c4
    refine Z_aload_n hC dX9_see_12 rfl rfl ?_
    refine Z_iload_n hC dX9_see_13 rfl rfl ?_
    obtain ⟨r6, s5, h7, k⟩ := k
    refine Z_callV (As := [.int x2]) (rest := []) hC h7 cvX9_216 ⟨9, rfl, zs_9, _, rfl, rfl⟩ rfl rfl (Nat.le_of_ble_eq_true rfl) dX9_see_14 ?_
    refine Z_if_eq (tgt := 38) hC dX9_see_17 (by decide) (fun c8 => ?_) (fun c8 => ?_)
    · have k := k.1 c8
      refine Z_iconst (v := (-1)) hC dX9_see_38 rfl ?_
      exact Z_iret hC dX9_see_39 k.1 k.2
    · have k := k.2 c8
      refine Z_iload_n hC dX9_see_20 rfl rfl ?_
      refine Z_i2l hC dX9_see_21 ?_
      refine Z_lconst (v := 0) hC dX9_see_22 rfl ?_
      refine Z_ldc2 hC clX9_224 dX9_see_23 ?_
      obtain ⟨r10, s9, h11, k⟩ := k
      refine Z_callS (As := [.long x3.toInt64, .long 0, .long ((9))]) (rest := []) hC h11 csX9_78 rfl rfl (Nat.le_of_ble_eq_true rfl) dX9_see_26 ?_
      refine Z_if_eq (tgt := 38) hC dX9_see_29 (by decide) (fun c12 => ?_) (fun c12 => ?_)
      · have k := k.1 c12
        refine Z_iconst (v := (-1)) hC dX9_see_38 rfl ?_
        exact Z_iret hC dX9_see_39 k.1 k.2
      · have k := k.2 c12
        refine Z_iload_n hC dX9_see_32 rfl rfl ?_
        refine Z_bipush (v := 8) hC dX9_see_33 rfl ?_
        refine Z_icmp_ne (tgt := 40) hC dX9_see_35 (by decide) (fun c13 => ?_) (fun c13 => ?_)
        · have k := k.1 c13
          refine Z_aload_n hC dX9_see_40 rfl rfl ?_
          refine Z_get (o := 20) (c := 9) (k := 0) (v := .ref (ad 20 1)) hC rfl zs_9 lkX9_7 rfl dX9_see_41 ?_
          refine Z_bipush (v := 43) hC dX9_see_44 rfl ?_
          obtain ⟨h14, k⟩ := k
          refine Z_iald (o := 20) (k := 0) hC (zis_of rfl rfl) h14 dX9_see_46 ?_
          refine Z_bipush (v := 6) hC dX9_see_47 rfl ?_
          refine Z_icmp_ne (tgt := 55) hC dX9_see_49 (by decide) (fun c15 => ?_) (fun c15 => ?_)
          · have k := k.1 c15
            refine Z_bipush (v := 44) hC dX9_see_55 rfl ?_
            refine Z_iconst (v := 3) hC dX9_see_57 rfl ?_
            refine Z_aload_n hC dX9_see_58 rfl rfl ?_
            refine Z_get (o := 20) (c := 9) (k := 0) (v := .ref (ad 20 1)) hC rfl zs_9 lkX9_7 rfl dX9_see_59 ?_
            refine Z_bipush (v := 43) hC dX9_see_62 rfl ?_
            obtain ⟨h16, k⟩ := k
            refine Z_iald (o := 20) (k := 0) hC (zis_of rfl rfl) h16 dX9_see_64 ?_
            refine Z_imul hC dX9_see_65 ?_
            refine Z_iadd hC dX9_see_66 ?_
            refine Z_istore (V2 := [(4, .int (44 + (3 * ((s9 20).2.2 0 (43 : Int32).toNatClampNeg)))), (0, .ref (ad 20 0)), (1, .int x1), (2, .int x2), (3, .int x3)]) hC dX9_see_67 (by decide) rfl ?_
            refine Z_aload_n hC dX9_see_69 rfl rfl ?_
            refine Z_get (o := 20) (c := 9) (k := 0) (v := .ref (ad 20 1)) hC rfl zs_9 lkX9_7 rfl dX9_see_70 ?_
            refine Z_iload hC dX9_see_73 rfl ?_
            refine Z_iload_n hC dX9_see_75 rfl rfl ?_
            obtain ⟨h17, k⟩ := k
            refine Z_iast2 (o := 20) (k := 0) hC (zis_of rfl rfl) h17 dX9_see_76 (fun s18 es18 => ?_)
            have k := k s18 es18
            refine Z_aload_n hC dX9_see_77 rfl rfl ?_
            refine Z_get (o := 20) (c := 9) (k := 0) (v := .ref (ad 20 1)) hC rfl zs_9 lkX9_7 rfl dX9_see_78 ?_
            refine Z_iload hC dX9_see_81 rfl ?_
            refine Z_iconst (v := 1) hC dX9_see_83 rfl ?_
            refine Z_iadd hC dX9_see_84 ?_
            refine Z_iload_n hC dX9_see_85 rfl rfl ?_
            obtain ⟨h19, k⟩ := k
            refine Z_iast2 (o := 20) (k := 0) hC (zis_of rfl rfl) h19 dX9_see_86 (fun s20 es20 => ?_)
            have k := k s20 es20
            refine Z_aload_n hC dX9_see_87 rfl rfl ?_
            refine Z_get (o := 20) (c := 9) (k := 0) (v := .ref (ad 20 1)) hC rfl zs_9 lkX9_7 rfl dX9_see_88 ?_
            refine Z_iload hC dX9_see_91 rfl ?_
            refine Z_iconst (v := 2) hC dX9_see_93 rfl ?_
            refine Z_iadd hC dX9_see_94 ?_
            refine Z_iload_n hC dX9_see_95 rfl rfl ?_
            obtain ⟨r22, s21, h23, k⟩ := k
            refine Z_callS (As := [.int x3]) (rest := [.int ((44 + (3 * ((s9 20).2.2 0 (43 : Int32).toNatClampNeg))) + 2), .ref (ad 20 1)]) hC h23 csX9_229 rfl rfl (Nat.le_of_ble_eq_true rfl) dX9_see_96 ?_
            obtain ⟨h24, k⟩ := k
            refine Z_iast2 (o := 20) (k := 0) hC (zis_of rfl rfl) h24 dX9_see_99 (fun s25 es25 => ?_)
            have k := k s25 es25
            refine Z_aload_n hC dX9_see_100 rfl rfl ?_
            refine Z_get (o := 20) (c := 9) (k := 0) (v := .ref (ad 20 1)) hC rfl zs_9 lkX9_7 rfl dX9_see_101 ?_
            refine Z_bipush (v := 43) hC dX9_see_104 rfl ?_
            refine Z_dup2 hC dX9_see_106 rfl rfl ?_
            obtain ⟨h26, k⟩ := k
            refine Z_iald (o := 20) (k := 0) hC (zis_of rfl rfl) h26 dX9_see_107 ?_
            refine Z_iconst (v := 1) hC dX9_see_108 rfl ?_
            refine Z_iadd hC dX9_see_109 ?_
            obtain ⟨h27, k⟩ := k
            refine Z_iast2 (o := 20) (k := 0) hC (zis_of rfl rfl) h27 dX9_see_110 (fun s28 es28 => ?_)
            have k := k s28 es28
            refine Z_aload_n hC dX9_see_111 rfl rfl ?_
            refine Z_get (o := 20) (c := 9) (k := 0) (v := .ref (ad 20 1)) hC rfl zs_9 lkX9_7 rfl dX9_see_112 ?_
            refine Z_bipush (v := 43) hC dX9_see_115 rfl ?_
            obtain ⟨h29, k⟩ := k
            refine Z_iald (o := 20) (k := 0) hC (zis_of rfl rfl) h29 dX9_see_117 ?_
            exact Z_iret hC dX9_see_118 k.1 k.2
          · have k := k.2 c15
            refine Z_bipush (v := (-3)) hC dX9_see_52 rfl ?_
            exact Z_iret hC dX9_see_54 k.1 k.2
        · have k := k.2 c13
          refine Z_iconst (v := (-1)) hC dX9_see_38 rfl ?_
          exact Z_iret hC dX9_see_39 k.1 k.2
theorem eX9_see {x1 : Int32} {x2 : Int32} {x3 : Int32} {X : Option Value} {Y : ZS} {s : ZS} (k : (∃ (r2 : Int32) (s1 : ZS), Ev l ad D ia d mX9_in [.long x1.toInt64, .long 0, .long ((20))] s (some (.int r2)) s1 ∧ ((r2 = 0 → (X = some (.int ((-1))) ∧ Y = s1)) ∧ (¬ r2 = 0 → (∃ (r6 : Int32) (s5 : ZS), Ev l ad D ia d mX9_isReader [.ref (ad 20 0), .int x2] s1 (some (.int r6)) s5 ∧ ((r6 = 0 → (X = some (.int ((-1))) ∧ Y = s5)) ∧ (¬ r6 = 0 → (∃ (r10 : Int32) (s9 : ZS), Ev l ad D ia d mX9_in [.long x3.toInt64, .long 0, .long ((9))] s5 (some (.int r10)) s9 ∧ ((r10 = 0 → (X = some (.int ((-1))) ∧ Y = s9)) ∧ (¬ r10 = 0 → ((¬ x3 = 8 → (vp_in 43 186 ∧ ((¬ ((s9 20).2.2 0 (43 : Int32).toNatClampNeg) = 6 → (vp_in 43 186 ∧ (vp_in (44 + (3 * ((s9 20).2.2 0 (43 : Int32).toNatClampNeg))) 186 ∧ (∀ s18 : ZS, s18 = stA s9 20 0 (44 + (3 * ((s9 20).2.2 0 (43 : Int32).toNatClampNeg))).toNatClampNeg x1 → (vp_in ((44 + (3 * ((s9 20).2.2 0 (43 : Int32).toNatClampNeg))) + 1) 186 ∧ (∀ s20 : ZS, s20 = stA s18 20 0 ((44 + (3 * ((s9 20).2.2 0 (43 : Int32).toNatClampNeg))) + 1).toNatClampNeg x2 → (∃ (r22 : Int32) (s21 : ZS), Ev l ad D ia d mX9_asKept [.int x3] s20 (some (.int r22)) s21 ∧ (vp_in ((44 + (3 * ((s9 20).2.2 0 (43 : Int32).toNatClampNeg))) + 2) 186 ∧ (∀ s25 : ZS, s25 = stA s21 20 0 ((44 + (3 * ((s9 20).2.2 0 (43 : Int32).toNatClampNeg))) + 2).toNatClampNeg r22 → (vp_in 43 186 ∧ (vp_in 43 186 ∧ (∀ s28 : ZS, s28 = stA s25 20 0 (43 : Int32).toNatClampNeg (((s25 20).2.2 0 (43 : Int32).toNatClampNeg) + 1) → (vp_in 43 186 ∧ (X = some (.int ((s28 20).2.2 0 (43 : Int32).toNatClampNeg)) ∧ Y = s28)))))))))))))) ∧ (((s9 20).2.2 0 (43 : Int32).toNatClampNeg) = 6 → (X = some (.int ((-3))) ∧ Y = s9))))) ∧ (x3 = 8 → (X = some (.int ((-1))) ∧ Y = s9))))))))))))) : Ev l ad D ia (d + 1) mX9_see [.ref (ad 20 0), .int x1, .int x2, .int x3] s X Y :=
  Ev.start (by decide +kernel) (Nat.le_of_ble_eq_true rfl) (fun C hC => bX9_see_0  hC k)
set_option maxRecDepth 100000 in
set_option maxHeartbeats 4000000 in
theorem bX9_forget_0 {x1 : Int32} {C : ZC} {X : Option Value} {Y : ZS} {s : ZS} (hC : Zok ad D ia C (d + 1) cX9_forget 2 RX9 (some .int)) (k : (vp_in 43 186 ∧ (∃ (r3 : Int32) (s2 : ZS), Ev l ad D ia d mX9_in [.long x1.toInt64, .long 0, .long (((s 20).2.2 0 (43 : Int32).toNatClampNeg).toInt64)] s (some (.int r3)) s2 ∧ ((r3 = 0 → (X = some (.int ((-1))) ∧ Y = s2)) ∧ (¬ r3 = 0 → (∃ (r7 : Int32) (s6 : ZS), Ev l ad D ia d mX9_becomes [.ref (ad 20 0), .int 43, .int x1] s2 (some (.int r7)) s6 ∧ (X = some (.int r7) ∧ Y = s6))))))) : Z l ad D ia C X Y 0 [(0, .ref (ad 20 0)), (1, .int x1)] [] s := by
  refine Z_iload_n hC dX9_forget_0 rfl rfl ?_
  refine Z_i2l hC dX9_forget_1 ?_
  refine Z_lconst (v := 0) hC dX9_forget_2 rfl ?_
  refine Z_aload_n hC dX9_forget_3 rfl rfl ?_
  refine Z_get (o := 20) (c := 9) (k := 0) (v := .ref (ad 20 1)) hC rfl zs_9 lkX9_7 rfl dX9_forget_4 ?_
  refine Z_bipush (v := 43) hC dX9_forget_7 rfl ?_
  obtain ⟨h1, k⟩ := k
  refine Z_iald (o := 20) (k := 0) hC (zis_of rfl rfl) h1 dX9_forget_9 ?_
  refine Z_i2l hC dX9_forget_10 ?_
  obtain ⟨r3, s2, h4, k⟩ := k
  refine Z_callS (As := [.long x1.toInt64, .long 0, .long (((s 20).2.2 0 (43 : Int32).toNatClampNeg).toInt64)]) (rest := []) hC h4 csX9_78 rfl rfl (Nat.le_of_ble_eq_true rfl) dX9_forget_11 ?_
  refine Z_if_eq (tgt := 27) hC dX9_forget_14 (by decide) (fun c5 => ?_) (fun c5 => ?_)
  · have k := k.1 c5
    refine Z_iconst (v := (-1)) hC dX9_forget_27 rfl ?_
    exact Z_iret hC dX9_forget_28 k.1 k.2
  · have k := k.2 c5
    refine Z_aload_n hC dX9_forget_17 rfl rfl ?_
    refine Z_bipush (v := 43) hC dX9_forget_18 rfl ?_
    refine Z_iload_n hC dX9_forget_20 rfl rfl ?_
    obtain ⟨r7, s6, h8, k⟩ := k
    refine Z_callV (As := [.int 43, .int x1]) (rest := []) hC h8 cvX9_232 ⟨9, rfl, zs_9, _, rfl, rfl⟩ rfl rfl (Nat.le_of_ble_eq_true rfl) dX9_forget_21 ?_
    refine Z_goto (tgt := 28) hC dX9_forget_24 (by decide) ?_
    exact Z_iret hC dX9_forget_28 k.1 k.2
theorem eX9_forget {x1 : Int32} {X : Option Value} {Y : ZS} {s : ZS} (k : (vp_in 43 186 ∧ (∃ (r3 : Int32) (s2 : ZS), Ev l ad D ia d mX9_in [.long x1.toInt64, .long 0, .long (((s 20).2.2 0 (43 : Int32).toNatClampNeg).toInt64)] s (some (.int r3)) s2 ∧ ((r3 = 0 → (X = some (.int ((-1))) ∧ Y = s2)) ∧ (¬ r3 = 0 → (∃ (r7 : Int32) (s6 : ZS), Ev l ad D ia d mX9_becomes [.ref (ad 20 0), .int 43, .int x1] s2 (some (.int r7)) s6 ∧ (X = some (.int r7) ∧ Y = s6))))))) : Ev l ad D ia (d + 1) mX9_forget [.ref (ad 20 0), .int x1] s X Y :=
  Ev.start (by decide +kernel) (Nat.le_of_ble_eq_true rfl) (fun C hC => bX9_forget_0  hC k)
set_option maxRecDepth 100000 in
set_option maxHeartbeats 4000000 in
theorem bX9_isSoWith_0 {x1 : Int32} {x2 : Int32} {C : ZC} {X : Option Value} {Y : ZS} {s : ZS} (hC : Zok ad D ia C (d + 1) cX9_isSoWith 6 RX9 (some .boolean)) (k : (∃ s1 : ZS, Ev l ad D ia d mX9_starts [.ref (ad 20 0)] s none s1 ∧ (vp_in x1 62 ∧ (∀ s4 : ZS, s4 = stA s1 20 1 x1.toNatClampNeg x2 → Z l ad D ia C X Y 13 [(0, .ref (ad 20 0)), (3, .int 0)] [] s4)))) : Z l ad D ia C X Y 0 [(0, .ref (ad 20 0)), (1, .int x1), (2, .int x2)] [] s := by
  refine Z_aload_n hC dX9_isSoWith_0 rfl rfl ?_
  obtain ⟨s1, h2, k⟩ := k
  refine Z_callV (As := []) (rest := []) hC h2 cvX9_204 ⟨9, rfl, zs_9, _, rfl, rfl⟩ rfl rfl (Nat.le_of_ble_eq_true rfl) dX9_isSoWith_1 ?_
  refine Z_aload_n hC dX9_isSoWith_4 rfl rfl ?_
  refine Z_get (o := 20) (c := 9) (k := 1) (v := .ref (ad 20 2)) hC rfl zs_9 lkX9_13 rfl dX9_isSoWith_5 ?_
  refine Z_iload_n hC dX9_isSoWith_8 rfl rfl ?_
  refine Z_iload_n hC dX9_isSoWith_9 rfl rfl ?_
  obtain ⟨h3, k⟩ := k
  refine Z_iast2 (o := 20) (k := 1) hC (zis_of rfl rfl) h3 dX9_isSoWith_10 (fun s4 es4 => ?_)
  have k := k s4 es4
  refine Z_iconst (v := 0) hC dX9_isSoWith_11 rfl ?_
  refine Z_istore_n (V2 := [(3, .int 0), (0, .ref (ad 20 0)), (1, .int x1), (2, .int x2)]) hC dX9_isSoWith_12 rfl (by decide) rfl ?_
  exact Z_pick [1, 0] rfl k
theorem eX9_isSoWith {x1 : Int32} {x2 : Int32} {X : Option Value} {Y : ZS} {s : ZS} (k : ∀ C : ZC, Zok ad D ia C (d + 1) cX9_isSoWith 6 RX9 (some .boolean) → (∃ s1 : ZS, Ev l ad D ia d mX9_starts [.ref (ad 20 0)] s none s1 ∧ (vp_in x1 62 ∧ (∀ s4 : ZS, s4 = stA s1 20 1 x1.toNatClampNeg x2 → Z l ad D ia C X Y 13 [(0, .ref (ad 20 0)), (3, .int 0)] [] s4)))) : Ev l ad D ia (d + 1) mX9_isSoWith [.ref (ad 20 0), .int x1, .int x2] s X Y :=
  Ev.start (by decide +kernel) (Nat.le_of_ble_eq_true rfl) (fun C hC => bX9_isSoWith_0  hC (k C hC))
set_option maxRecDepth 100000 in
set_option maxHeartbeats 4000000 in
theorem bX9_isSoWith_13 {x3 : Int32} {C : ZC} {X : Option Value} {Y : ZS} {s : ZS} (hC : Zok ad D ia C (d + 1) cX9_isSoWith 6 RX9 (some .boolean)) (k : ((20 < x3 → Z l ad D ia C X Y 70 [(0, .ref (ad 20 0)), (3, .int 1), (4, .int 0)] [] s) ∧ (¬ 20 < x3 → Z l ad D ia C X Y 22 [(0, .ref (ad 20 0)), (3, .int x3), (4, .int 0)] [] s))) : Z l ad D ia C X Y 13 [(0, .ref (ad 20 0)), (3, .int x3)] [] s := by
  refine Z_iload_n hC dX9_isSoWith_13 rfl rfl ?_
  refine Z_bipush (v := 20) hC dX9_isSoWith_14 rfl ?_
  refine Z_icmp_gt (tgt := 65) hC dX9_isSoWith_16 (by decide) (fun c1 => ?_) (fun c1 => ?_)
  · have k := k.1 c1
    refine Z_iconst (v := 1) hC dX9_isSoWith_65 rfl ?_
    refine Z_istore_n (V2 := [(3, .int 1), (0, .ref (ad 20 0))]) hC dX9_isSoWith_66 rfl (by decide) rfl ?_
    refine Z_iconst (v := 0) hC dX9_isSoWith_67 rfl ?_
    refine Z_istore (V2 := [(4, .int 0), (3, .int 1), (0, .ref (ad 20 0))]) hC dX9_isSoWith_68 (by decide) rfl ?_
    exact Z_pick [2, 1, 0] rfl k
  · have k := k.2 c1
    refine Z_iconst (v := 0) hC dX9_isSoWith_19 rfl ?_
    refine Z_istore (V2 := [(4, .int 0), (0, .ref (ad 20 0)), (3, .int x3)]) hC dX9_isSoWith_20 (by decide) rfl ?_
    exact Z_pick [1, 2, 0] rfl k
set_option maxRecDepth 100000 in
set_option maxHeartbeats 4000000 in
theorem bX9_isSoWith_22 {x3 : Int32} {x4 : Int32} {C : ZC} {X : Option Value} {Y : ZS} {s : ZS} (hC : Zok ad D ia C (d + 1) cX9_isSoWith 6 RX9 (some .boolean)) (k : ((((s 20).1 4) ≤ x4 → (∃ s2 : ZS, Ev l ad D ia d mX9_dayGoes [.ref (ad 20 0)] s none s2 ∧ Z l ad D ia C X Y 13 [(0, .ref (ad 20 0)), (3, .int (x3 + 1))] [] s2)) ∧ (¬ ((s 20).1 4) ≤ x4 → (∃ (r5 : Int32) (s4 : ZS), Ev l ad D ia d mX9_ofReader [.ref (ad 20 0), .int x4, .int 1] s (some (.int r5)) s4 ∧ (vp_in ((4 * x3) + x4) 84 ∧ (∀ s8 : ZS, s8 = stA s4 20 27 ((4 * x3) + x4).toNatClampNeg r5 → Z l ad D ia C X Y 22 [(0, .ref (ad 20 0)), (3, .int x3), (4, .int (x4 + 1))] [] s8)))))) : Z l ad D ia C X Y 22 [(0, .ref (ad 20 0)), (3, .int x3), (4, .int x4)] [] s := by
  refine Z_iload hC dX9_isSoWith_22 rfl ?_
  refine Z_aload_n hC dX9_isSoWith_24 rfl rfl ?_
  refine Z_get (o := 20) (c := 9) (k := 4) (v := .int ((s 20).1 4)) hC rfl zs_9 lkX9_73 rfl dX9_isSoWith_25 ?_
  refine Z_icmp_ge (tgt := 55) hC dX9_isSoWith_28 (by decide) (fun c1 => ?_) (fun c1 => ?_)
  · have k := k.1 c1
    refine Z_aload_n hC dX9_isSoWith_55 rfl rfl ?_
    obtain ⟨s2, h3, k⟩ := k
    refine Z_callV (As := []) (rest := []) hC h3 cvX9_197 ⟨9, rfl, zs_9, _, rfl, rfl⟩ rfl rfl (Nat.le_of_ble_eq_true rfl) dX9_isSoWith_56 ?_
    refine Z_iinc (v := x3 + 1) (V2 := [(3, .int (x3 + 1)), (0, .ref (ad 20 0)), (4, .int x4)]) hC dX9_isSoWith_59 rfl rfl (by decide) rfl ?_
    refine Z_goto (tgt := 13) hC dX9_isSoWith_62 (by decide) ?_
    exact Z_pick [1, 0] rfl k
  · have k := k.2 c1
    refine Z_aload_n hC dX9_isSoWith_31 rfl rfl ?_
    refine Z_get (o := 20) (c := 9) (k := 27) (v := .ref (ad 20 28)) hC rfl zs_9 lkX9_32 rfl dX9_isSoWith_32 ?_
    refine Z_iconst (v := 4) hC dX9_isSoWith_35 rfl ?_
    refine Z_iload_n hC dX9_isSoWith_36 rfl rfl ?_
    refine Z_imul hC dX9_isSoWith_37 ?_
    refine Z_iload hC dX9_isSoWith_38 rfl ?_
    refine Z_iadd hC dX9_isSoWith_40 ?_
    refine Z_aload_n hC dX9_isSoWith_41 rfl rfl ?_
    refine Z_iload hC dX9_isSoWith_42 rfl ?_
    refine Z_iconst (v := 1) hC dX9_isSoWith_44 rfl ?_
    obtain ⟨r5, s4, h6, k⟩ := k
    refine Z_callV (As := [.int x4, .int 1]) (rest := [.int ((4 * x3) + x4), .ref (ad 20 28)]) hC h6 cvX9_153 ⟨9, rfl, zs_9, _, rfl, rfl⟩ rfl rfl (Nat.le_of_ble_eq_true rfl) dX9_isSoWith_45 ?_
    obtain ⟨h7, k⟩ := k
    refine Z_iast2 (o := 20) (k := 27) hC (zis_of rfl rfl) h7 dX9_isSoWith_48 (fun s8 es8 => ?_)
    have k := k s8 es8
    refine Z_iinc (v := x4 + 1) (V2 := [(4, .int (x4 + 1)), (0, .ref (ad 20 0)), (3, .int x3)]) hC dX9_isSoWith_49 rfl rfl (by decide) rfl ?_
    refine Z_goto (tgt := 22) hC dX9_isSoWith_52 (by decide) ?_
    exact Z_pick [1, 2, 0] rfl k
set_option maxRecDepth 100000 in
set_option maxHeartbeats 4000000 in
theorem bX9_isSoWith_70 {x3 : Int32} {x4 : Int32} {C : ZC} {X : Option Value} {Y : ZS} {s : ZS} (hC : Zok ad D ia C (d + 1) cX9_isSoWith 6 RX9 (some .boolean)) (k : (vp_in 43 186 ∧ ((((s 20).2.2 0 (43 : Int32).toNatClampNeg) ≤ x4 → (narrow .boolean (.int x3) = .int x3 ∧ X = some (.int x3) ∧ Y = s)) ∧ (¬ ((s 20).2.2 0 (43 : Int32).toNatClampNeg) ≤ x4 → ((x3 = 0 → Z l ad D ia C X Y 70 [(0, .ref (ad 20 0)), (3, .int 0), (4, .int (x4 + 1))] [] s) ∧ (¬ x3 = 0 → (vp_in (44 + (3 * x4)) 186 ∧ (vp_in ((44 + (3 * x4)) + 1) 186 ∧ (vp_in ((4 * ((s 20).2.2 0 (44 + (3 * x4)).toNatClampNeg)) + ((s 20).2.2 0 ((44 + (3 * x4)) + 1).toNatClampNeg)) 84 ∧ (vp_in ((44 + (3 * x4)) + 2) 186 ∧ ((¬ ((s 20).2.2 27 ((4 * ((s 20).2.2 0 (44 + (3 * x4)).toNatClampNeg)) + ((s 20).2.2 0 ((44 + (3 * x4)) + 1).toNatClampNeg)).toNatClampNeg) = ((s 20).2.2 0 ((44 + (3 * x4)) + 2).toNatClampNeg) → Z l ad D ia C X Y 70 [(0, .ref (ad 20 0)), (3, .int 0), (4, .int (x4 + 1))] [] s) ∧ (((s 20).2.2 27 ((4 * ((s 20).2.2 0 (44 + (3 * x4)).toNatClampNeg)) + ((s 20).2.2 0 ((44 + (3 * x4)) + 1).toNatClampNeg)).toNatClampNeg) = ((s 20).2.2 0 ((44 + (3 * x4)) + 2).toNatClampNeg) → Z l ad D ia C X Y 70 [(0, .ref (ad 20 0)), (3, .int 1), (4, .int (x4 + 1))] [] s)))))))))))) : Z l ad D ia C X Y 70 [(0, .ref (ad 20 0)), (3, .int x3), (4, .int x4)] [] s := by
  refine Z_iload hC dX9_isSoWith_70 rfl ?_
  refine Z_aload_n hC dX9_isSoWith_72 rfl rfl ?_
  refine Z_get (o := 20) (c := 9) (k := 0) (v := .ref (ad 20 1)) hC rfl zs_9 lkX9_7 rfl dX9_isSoWith_73 ?_
  refine Z_bipush (v := 43) hC dX9_isSoWith_76 rfl ?_
  obtain ⟨h1, k⟩ := k
  refine Z_iald (o := 20) (k := 0) hC (zis_of rfl rfl) h1 dX9_isSoWith_78 ?_
  refine Z_icmp_ge (tgt := 143) hC dX9_isSoWith_79 (by decide) (fun c2 => ?_) (fun c2 => ?_)
  · have k := k.1 c2
    refine Z_iload_n hC dX9_isSoWith_143 rfl rfl ?_
    exact Z_zret hC dX9_isSoWith_144 k.1 k.2.1 k.2.2
  · have k := k.2 c2
    refine Z_bipush (v := 44) hC dX9_isSoWith_82 rfl ?_
    refine Z_iconst (v := 3) hC dX9_isSoWith_84 rfl ?_
    refine Z_iload hC dX9_isSoWith_85 rfl ?_
    refine Z_imul hC dX9_isSoWith_87 ?_
    refine Z_iadd hC dX9_isSoWith_88 ?_
    refine Z_istore (V2 := [(5, .int (44 + (3 * x4))), (0, .ref (ad 20 0)), (3, .int x3), (4, .int x4)]) hC dX9_isSoWith_89 (by decide) rfl ?_
    refine Z_iload_n hC dX9_isSoWith_91 rfl rfl ?_
    refine Z_if_eq (tgt := 135) hC dX9_isSoWith_92 (by decide) (fun c3 => ?_) (fun c3 => ?_)
    · have k := k.1 c3
      refine Z_iconst (v := 0) hC dX9_isSoWith_135 rfl ?_
      refine Z_istore_n (V2 := [(3, .int 0), (5, .int (44 + (3 * x4))), (0, .ref (ad 20 0)), (4, .int x4)]) hC dX9_isSoWith_136 rfl (by decide) rfl ?_
      refine Z_iinc (v := x4 + 1) (V2 := [(4, .int (x4 + 1)), (3, .int 0), (5, .int (44 + (3 * x4))), (0, .ref (ad 20 0))]) hC dX9_isSoWith_137 rfl rfl (by decide) rfl ?_
      refine Z_goto (tgt := 70) hC dX9_isSoWith_140 (by decide) ?_
      exact Z_pick [3, 1, 0] rfl k
    · have k := k.2 c3
      refine Z_aload_n hC dX9_isSoWith_95 rfl rfl ?_
      refine Z_get (o := 20) (c := 9) (k := 27) (v := .ref (ad 20 28)) hC rfl zs_9 lkX9_32 rfl dX9_isSoWith_96 ?_
      refine Z_iconst (v := 4) hC dX9_isSoWith_99 rfl ?_
      refine Z_aload_n hC dX9_isSoWith_100 rfl rfl ?_
      refine Z_get (o := 20) (c := 9) (k := 0) (v := .ref (ad 20 1)) hC rfl zs_9 lkX9_7 rfl dX9_isSoWith_101 ?_
      refine Z_iload hC dX9_isSoWith_104 rfl ?_
      obtain ⟨h4, k⟩ := k
      refine Z_iald (o := 20) (k := 0) hC (zis_of rfl rfl) h4 dX9_isSoWith_106 ?_
      refine Z_imul hC dX9_isSoWith_107 ?_
      refine Z_aload_n hC dX9_isSoWith_108 rfl rfl ?_
      refine Z_get (o := 20) (c := 9) (k := 0) (v := .ref (ad 20 1)) hC rfl zs_9 lkX9_7 rfl dX9_isSoWith_109 ?_
      refine Z_iload hC dX9_isSoWith_112 rfl ?_
      refine Z_iconst (v := 1) hC dX9_isSoWith_114 rfl ?_
      refine Z_iadd hC dX9_isSoWith_115 ?_
      obtain ⟨h5, k⟩ := k
      refine Z_iald (o := 20) (k := 0) hC (zis_of rfl rfl) h5 dX9_isSoWith_116 ?_
      refine Z_iadd hC dX9_isSoWith_117 ?_
      obtain ⟨h6, k⟩ := k
      refine Z_iald (o := 20) (k := 27) hC (zis_of rfl rfl) h6 dX9_isSoWith_118 ?_
      refine Z_aload_n hC dX9_isSoWith_119 rfl rfl ?_
      refine Z_get (o := 20) (c := 9) (k := 0) (v := .ref (ad 20 1)) hC rfl zs_9 lkX9_7 rfl dX9_isSoWith_120 ?_
      refine Z_iload hC dX9_isSoWith_123 rfl ?_
      refine Z_iconst (v := 2) hC dX9_isSoWith_125 rfl ?_
      refine Z_iadd hC dX9_isSoWith_126 ?_
      obtain ⟨h7, k⟩ := k
      refine Z_iald (o := 20) (k := 0) hC (zis_of rfl rfl) h7 dX9_isSoWith_127 ?_
      refine Z_icmp_ne (tgt := 135) hC dX9_isSoWith_128 (by decide) (fun c8 => ?_) (fun c8 => ?_)
      · have k := k.1 c8
        refine Z_iconst (v := 0) hC dX9_isSoWith_135 rfl ?_
        refine Z_istore_n (V2 := [(3, .int 0), (5, .int (44 + (3 * x4))), (0, .ref (ad 20 0)), (4, .int x4)]) hC dX9_isSoWith_136 rfl (by decide) rfl ?_
        refine Z_iinc (v := x4 + 1) (V2 := [(4, .int (x4 + 1)), (3, .int 0), (5, .int (44 + (3 * x4))), (0, .ref (ad 20 0))]) hC dX9_isSoWith_137 rfl rfl (by decide) rfl ?_
        refine Z_goto (tgt := 70) hC dX9_isSoWith_140 (by decide) ?_
        exact Z_pick [3, 1, 0] rfl k
      · have k := k.2 c8
        refine Z_iconst (v := 1) hC dX9_isSoWith_131 rfl ?_
        refine Z_goto (tgt := 136) hC dX9_isSoWith_132 (by decide) ?_
        refine Z_istore_n (V2 := [(3, .int 1), (5, .int (44 + (3 * x4))), (0, .ref (ad 20 0)), (4, .int x4)]) hC dX9_isSoWith_136 rfl (by decide) rfl ?_
        refine Z_iinc (v := x4 + 1) (V2 := [(4, .int (x4 + 1)), (3, .int 1), (5, .int (44 + (3 * x4))), (0, .ref (ad 20 0))]) hC dX9_isSoWith_137 rfl rfl (by decide) rfl ?_
        refine Z_goto (tgt := 70) hC dX9_isSoWith_140 (by decide) ?_
        exact Z_pick [3, 1, 0] rfl k
set_option maxRecDepth 100000 in
set_option maxHeartbeats 4000000 in
theorem bX9_kinds_0 {x1 : Int32} {C : ZC} {X : Option Value} {Y : ZS} {s : ZS} (hC : Zok ad D ia C (d + 1) cX9_kinds 4 RX9 (some .int)) (k : (∃ (r2 : Int32) (s1 : ZS), Ev l ad D ia d mX9_isReader [.ref (ad 20 0), .int x1] s (some (.int r2)) s1 ∧ ((¬ r2 = 0 → Z l ad D ia C X Y 14 [(0, .ref (ad 20 0)), (1, .int x1), (2, .int 0), (3, .int 0)] [] s1) ∧ (r2 = 0 → (X = some (.int ((-1))) ∧ Y = s1))))) : Z l ad D ia C X Y 0 [(0, .ref (ad 20 0)), (1, .int x1)] [] s := by
  refine Z_aload_n hC dX9_kinds_0 rfl rfl ?_
  refine Z_iload_n hC dX9_kinds_1 rfl rfl ?_
  obtain ⟨r2, s1, h3, k⟩ := k
  refine Z_callV (As := [.int x1]) (rest := []) hC h3 cvX9_216 ⟨9, rfl, zs_9, _, rfl, rfl⟩ rfl rfl (Nat.le_of_ble_eq_true rfl) dX9_kinds_2 ?_
  refine Z_if_ne (tgt := 10) hC dX9_kinds_5 (by decide) (fun c4 => ?_) (fun c4 => ?_)
  · have k := k.1 c4
    refine Z_iconst (v := 0) hC dX9_kinds_10 rfl ?_
    refine Z_istore_n (V2 := [(2, .int 0), (0, .ref (ad 20 0)), (1, .int x1)]) hC dX9_kinds_11 rfl (by decide) rfl ?_
    refine Z_iconst (v := 0) hC dX9_kinds_12 rfl ?_
    refine Z_istore_n (V2 := [(3, .int 0), (2, .int 0), (0, .ref (ad 20 0)), (1, .int x1)]) hC dX9_kinds_13 rfl (by decide) rfl ?_
    exact Z_pick [2, 3, 1, 0] rfl k
  · have k := k.2 c4
    refine Z_iconst (v := (-1)) hC dX9_kinds_8 rfl ?_
    exact Z_iret hC dX9_kinds_9 k.1 k.2
theorem eX9_kinds {x1 : Int32} {X : Option Value} {Y : ZS} {s : ZS} (k : ∀ C : ZC, Zok ad D ia C (d + 1) cX9_kinds 4 RX9 (some .int) → (∃ (r2 : Int32) (s1 : ZS), Ev l ad D ia d mX9_isReader [.ref (ad 20 0), .int x1] s (some (.int r2)) s1 ∧ ((¬ r2 = 0 → Z l ad D ia C X Y 14 [(0, .ref (ad 20 0)), (1, .int x1), (2, .int 0), (3, .int 0)] [] s1) ∧ (r2 = 0 → (X = some (.int ((-1))) ∧ Y = s1))))) : Ev l ad D ia (d + 1) mX9_kinds [.ref (ad 20 0), .int x1] s X Y :=
  Ev.start (by decide +kernel) (Nat.le_of_ble_eq_true rfl) (fun C hC => bX9_kinds_0  hC (k C hC))
set_option maxRecDepth 100000 in
set_option maxHeartbeats 4000000 in
theorem bX9_kinds_14 {x1 : Int32} {x2 : Int32} {x3 : Int32} {C : ZC} {X : Option Value} {Y : ZS} {s : ZS} (hC : Zok ad D ia C (d + 1) cX9_kinds 4 RX9 (some .int)) (k : ((4 ≤ x3 → (X = some (.int x2) ∧ Y = s)) ∧ (¬ 4 ≤ x3 → (∃ (r3 : Int32) (s2 : ZS), Ev l ad D ia d mX9_isSoWith [.ref (ad 20 0), .int ((24 + (4 * x1)) + 0), .int x3] s (some (.int r3)) s2 ∧ (∃ (r6 : Int32) (s5 : ZS), Ev l ad D ia d mX9_flag [.int r3] s2 (some (.int r6)) s5 ∧ Z l ad D ia C X Y 14 [(0, .ref (ad 20 0)), (1, .int x1), (2, .int (x2 ||| (r6 <<< (x3 &&& 31)))), (3, .int (x3 + 1))] [] s5))))) : Z l ad D ia C X Y 14 [(0, .ref (ad 20 0)), (1, .int x1), (2, .int x2), (3, .int x3)] [] s := by
  refine Z_iload_n hC dX9_kinds_14 rfl rfl ?_
  refine Z_iconst (v := 4) hC dX9_kinds_15 rfl ?_
  refine Z_icmp_ge (tgt := 46) hC dX9_kinds_16 (by decide) (fun c1 => ?_) (fun c1 => ?_)
  · have k := k.1 c1
    refine Z_iload_n hC dX9_kinds_46 rfl rfl ?_
    exact Z_iret hC dX9_kinds_47 k.1 k.2
  · have k := k.2 c1
    refine Z_iload_n hC dX9_kinds_19 rfl rfl ?_
    refine Z_aload_n hC dX9_kinds_20 rfl rfl ?_
    refine Z_bipush (v := 24) hC dX9_kinds_21 rfl ?_
    refine Z_iconst (v := 4) hC dX9_kinds_23 rfl ?_
    refine Z_iload_n hC dX9_kinds_24 rfl rfl ?_
    refine Z_imul hC dX9_kinds_25 ?_
    refine Z_iadd hC dX9_kinds_26 ?_
    refine Z_iconst (v := 0) hC dX9_kinds_27 rfl ?_
    refine Z_iadd hC dX9_kinds_28 ?_
    refine Z_iload_n hC dX9_kinds_29 rfl rfl ?_
    obtain ⟨r3, s2, h4, k⟩ := k
    refine Z_callV (As := [.int ((24 + (4 * x1)) + 0), .int x3]) (rest := [.int x2]) hC h4 cvX9_303 ⟨9, rfl, zs_9, _, rfl, rfl⟩ rfl rfl (Nat.le_of_ble_eq_true rfl) dX9_kinds_30 ?_
    obtain ⟨r6, s5, h7, k⟩ := k
    refine Z_callS (As := [.int r3]) (rest := [.int x2]) hC h7 csX9_200 rfl rfl (Nat.le_of_ble_eq_true rfl) dX9_kinds_33 ?_
    refine Z_iload_n hC dX9_kinds_36 rfl rfl ?_
    refine Z_ishl hC dX9_kinds_37 ?_
    refine Z_ior hC dX9_kinds_38 ?_
    refine Z_istore_n (V2 := [(2, .int (x2 ||| (r6 <<< (x3 &&& 31)))), (0, .ref (ad 20 0)), (1, .int x1), (3, .int x3)]) hC dX9_kinds_39 rfl (by decide) rfl ?_
    refine Z_iinc (v := x3 + 1) (V2 := [(3, .int (x3 + 1)), (2, .int (x2 ||| (r6 <<< (x3 &&& 31)))), (0, .ref (ad 20 0)), (1, .int x1)]) hC dX9_kinds_40 rfl rfl (by decide) rfl ?_
    refine Z_goto (tgt := 14) hC dX9_kinds_43 (by decide) ?_
    exact Z_pick [2, 3, 1, 0] rfl k
set_option maxRecDepth 100000 in
set_option maxHeartbeats 4000000 in
theorem bX9_heights_0 {x1 : Int32} {C : ZC} {X : Option Value} {Y : ZS} {s : ZS} (hC : Zok ad D ia C (d + 1) cX9_heights 4 RX9 (some .int)) (k : (∃ (r2 : Int32) (s1 : ZS), Ev l ad D ia d mX9_isBook [.ref (ad 20 0), .int x1] s (some (.int r2)) s1 ∧ ((¬ r2 = 0 → Z l ad D ia C X Y 14 [(0, .ref (ad 20 0)), (1, .int x1), (2, .int 0), (3, .int 0)] [] s1) ∧ (r2 = 0 → (X = some (.int ((-1))) ∧ Y = s1))))) : Z l ad D ia C X Y 0 [(0, .ref (ad 20 0)), (1, .int x1)] [] s := by
  refine Z_aload_n hC dX9_heights_0 rfl rfl ?_
  refine Z_iload_n hC dX9_heights_1 rfl rfl ?_
  obtain ⟨r2, s1, h3, k⟩ := k
  refine Z_callV (As := [.int x1]) (rest := []) hC h3 cvX9_210 ⟨9, rfl, zs_9, _, rfl, rfl⟩ rfl rfl (Nat.le_of_ble_eq_true rfl) dX9_heights_2 ?_
  refine Z_if_ne (tgt := 10) hC dX9_heights_5 (by decide) (fun c4 => ?_) (fun c4 => ?_)
  · have k := k.1 c4
    refine Z_iconst (v := 0) hC dX9_heights_10 rfl ?_
    refine Z_istore_n (V2 := [(2, .int 0), (0, .ref (ad 20 0)), (1, .int x1)]) hC dX9_heights_11 rfl (by decide) rfl ?_
    refine Z_iconst (v := 0) hC dX9_heights_12 rfl ?_
    refine Z_istore_n (V2 := [(3, .int 0), (2, .int 0), (0, .ref (ad 20 0)), (1, .int x1)]) hC dX9_heights_13 rfl (by decide) rfl ?_
    exact Z_pick [2, 3, 1, 0] rfl k
  · have k := k.2 c4
    refine Z_iconst (v := (-1)) hC dX9_heights_8 rfl ?_
    exact Z_iret hC dX9_heights_9 k.1 k.2
theorem eX9_heights {x1 : Int32} {X : Option Value} {Y : ZS} {s : ZS} (k : ∀ C : ZC, Zok ad D ia C (d + 1) cX9_heights 4 RX9 (some .int) → (∃ (r2 : Int32) (s1 : ZS), Ev l ad D ia d mX9_isBook [.ref (ad 20 0), .int x1] s (some (.int r2)) s1 ∧ ((¬ r2 = 0 → Z l ad D ia C X Y 14 [(0, .ref (ad 20 0)), (1, .int x1), (2, .int 0), (3, .int 0)] [] s1) ∧ (r2 = 0 → (X = some (.int ((-1))) ∧ Y = s1))))) : Ev l ad D ia (d + 1) mX9_heights [.ref (ad 20 0), .int x1] s X Y :=
  Ev.start (by decide +kernel) (Nat.le_of_ble_eq_true rfl) (fun C hC => bX9_heights_0  hC (k C hC))
set_option maxRecDepth 100000 in
set_option maxHeartbeats 4000000 in
theorem bX9_heights_14 {x1 : Int32} {x2 : Int32} {x3 : Int32} {C : ZC} {X : Option Value} {Y : ZS} {s : ZS} (hC : Zok ad D ia C (d + 1) cX9_heights 4 RX9 (some .int)) (k : ((9 < x3 → (X = some (.int x2) ∧ Y = s)) ∧ (¬ 9 < x3 → (∃ (r3 : Int32) (s2 : ZS), Ev l ad D ia d mX9_isSoWith [.ref (ad 20 0), .int ((3 * x1) + 1), .int x3] s (some (.int r3)) s2 ∧ (∃ (r6 : Int32) (s5 : ZS), Ev l ad D ia d mX9_flag [.int r3] s2 (some (.int r6)) s5 ∧ Z l ad D ia C X Y 14 [(0, .ref (ad 20 0)), (1, .int x1), (2, .int (x2 ||| (r6 <<< (x3 &&& 31)))), (3, .int (x3 + 1))] [] s5))))) : Z l ad D ia C X Y 14 [(0, .ref (ad 20 0)), (1, .int x1), (2, .int x2), (3, .int x3)] [] s := by
  refine Z_iload_n hC dX9_heights_14 rfl rfl ?_
  refine Z_bipush (v := 9) hC dX9_heights_15 rfl ?_
  refine Z_icmp_gt (tgt := 44) hC dX9_heights_17 (by decide) (fun c1 => ?_) (fun c1 => ?_)
  · have k := k.1 c1
    refine Z_iload_n hC dX9_heights_44 rfl rfl ?_
    exact Z_iret hC dX9_heights_45 k.1 k.2
  · have k := k.2 c1
    refine Z_iload_n hC dX9_heights_20 rfl rfl ?_
    refine Z_aload_n hC dX9_heights_21 rfl rfl ?_
    refine Z_iconst (v := 3) hC dX9_heights_22 rfl ?_
    refine Z_iload_n hC dX9_heights_23 rfl rfl ?_
    refine Z_imul hC dX9_heights_24 ?_
    refine Z_iconst (v := 1) hC dX9_heights_25 rfl ?_
    refine Z_iadd hC dX9_heights_26 ?_
    refine Z_iload_n hC dX9_heights_27 rfl rfl ?_
    obtain ⟨r3, s2, h4, k⟩ := k
    refine Z_callV (As := [.int ((3 * x1) + 1), .int x3]) (rest := [.int x2]) hC h4 cvX9_303 ⟨9, rfl, zs_9, _, rfl, rfl⟩ rfl rfl (Nat.le_of_ble_eq_true rfl) dX9_heights_28 ?_
    obtain ⟨r6, s5, h7, k⟩ := k
    refine Z_callS (As := [.int r3]) (rest := [.int x2]) hC h7 csX9_200 rfl rfl (Nat.le_of_ble_eq_true rfl) dX9_heights_31 ?_
    refine Z_iload_n hC dX9_heights_34 rfl rfl ?_
    refine Z_ishl hC dX9_heights_35 ?_
    refine Z_ior hC dX9_heights_36 ?_
    refine Z_istore_n (V2 := [(2, .int (x2 ||| (r6 <<< (x3 &&& 31)))), (0, .ref (ad 20 0)), (1, .int x1), (3, .int x3)]) hC dX9_heights_37 rfl (by decide) rfl ?_
    refine Z_iinc (v := x3 + 1) (V2 := [(3, .int (x3 + 1)), (2, .int (x2 ||| (r6 <<< (x3 &&& 31)))), (0, .ref (ad 20 0)), (1, .int x1)]) hC dX9_heights_38 rfl rfl (by decide) rfl ?_
    refine Z_goto (tgt := 14) hC dX9_heights_41 (by decide) ?_
    exact Z_pick [2, 3, 1, 0] rfl k
set_option maxRecDepth 100000 in
set_option maxHeartbeats 4000000 in
theorem bX9_ask_0 {x1 : Int32} {x2 : Int32} {C : ZC} {X : Option Value} {Y : ZS} {s : ZS} (hC : Zok ad D ia C (d + 1) cX9_ask 11 RX9 (some .int)) (k : (∃ (r2 : Int32) (s1 : ZS), Ev l ad D ia d mX9_isBook [.ref (ad 20 0), .int x1] s (some (.int r2)) s1 ∧ ((r2 = 0 → (X = some (.int ((-1))) ∧ Y = s1)) ∧ (¬ r2 = 0 → (∃ (r6 : Int32) (s5 : ZS), Ev l ad D ia d mX9_isPart [.int x2] s1 (some (.int r6)) s5 ∧ ((¬ r6 = 0 → Z l ad D ia C X Y 22 [(0, .ref (ad 20 0)), (1, .int x1), (2, .int x2), (3, .int 0), (4, .int 0)] [] s5) ∧ (r6 = 0 → (X = some (.int ((-1))) ∧ Y = s5)))))))) : Z l ad D ia C X Y 0 [(0, .ref (ad 20 0)), (1, .int x1), (2, .int x2)] [] s := by
  refine Z_aload_n hC dX9_ask_0 rfl rfl ?_
  refine Z_iload_n hC dX9_ask_1 rfl rfl ?_
  obtain ⟨r2, s1, h3, k⟩ := k
  refine Z_callV (As := [.int x1]) (rest := []) hC h3 cvX9_210 ⟨9, rfl, zs_9, _, rfl, rfl⟩ rfl rfl (Nat.le_of_ble_eq_true rfl) dX9_ask_2 ?_
  refine Z_if_eq (tgt := 15) hC dX9_ask_5 (by decide) (fun c4 => ?_) (fun c4 => ?_)
  · have k := k.1 c4
    refine Z_iconst (v := (-1)) hC dX9_ask_15 rfl ?_
    exact Z_iret hC dX9_ask_16 k.1 k.2
  · have k := k.2 c4
    refine Z_iload_n hC dX9_ask_8 rfl rfl ?_
    obtain ⟨r6, s5, h7, k⟩ := k
    refine Z_callS (As := [.int x2]) (rest := []) hC h7 csX9_253 rfl rfl (Nat.le_of_ble_eq_true rfl) dX9_ask_9 ?_
    refine Z_if_ne (tgt := 17) hC dX9_ask_12 (by decide) (fun c8 => ?_) (fun c8 => ?_)
    · have k := k.1 c8
      refine Z_iconst (v := 0) hC dX9_ask_17 rfl ?_
      refine Z_istore_n (V2 := [(3, .int 0), (0, .ref (ad 20 0)), (1, .int x1), (2, .int x2)]) hC dX9_ask_18 rfl (by decide) rfl ?_
      refine Z_iconst (v := 0) hC dX9_ask_19 rfl ?_
      refine Z_istore (V2 := [(4, .int 0), (3, .int 0), (0, .ref (ad 20 0)), (1, .int x1), (2, .int x2)]) hC dX9_ask_20 (by decide) rfl ?_
      exact Z_pick [2, 3, 4, 1, 0] rfl k
    · have k := k.2 c8
      refine Z_iconst (v := (-1)) hC dX9_ask_15 rfl ?_
      exact Z_iret hC dX9_ask_16 k.1 k.2
theorem eX9_ask {x1 : Int32} {x2 : Int32} {X : Option Value} {Y : ZS} {s : ZS} (k : ∀ C : ZC, Zok ad D ia C (d + 1) cX9_ask 11 RX9 (some .int) → (∃ (r2 : Int32) (s1 : ZS), Ev l ad D ia d mX9_isBook [.ref (ad 20 0), .int x1] s (some (.int r2)) s1 ∧ ((r2 = 0 → (X = some (.int ((-1))) ∧ Y = s1)) ∧ (¬ r2 = 0 → (∃ (r6 : Int32) (s5 : ZS), Ev l ad D ia d mX9_isPart [.int x2] s1 (some (.int r6)) s5 ∧ ((¬ r6 = 0 → Z l ad D ia C X Y 22 [(0, .ref (ad 20 0)), (1, .int x1), (2, .int x2), (3, .int 0), (4, .int 0)] [] s5) ∧ (r6 = 0 → (X = some (.int ((-1))) ∧ Y = s5)))))))) : Ev l ad D ia (d + 1) mX9_ask [.ref (ad 20 0), .int x1, .int x2] s X Y :=
  Ev.start (by decide +kernel) (Nat.le_of_ble_eq_true rfl) (fun C hC => bX9_ask_0  hC (k C hC))
set_option maxRecDepth 100000 in
set_option maxHeartbeats 4000000 in
theorem bX9_ask_22 {x1 : Int32} {x2 : Int32} {x3 : Int32} {x4 : Int32} {C : ZC} {X : Option Value} {Y : ZS} {s : ZS} (hC : Zok ad D ia C (d + 1) cX9_ask 11 RX9 (some .int)) (k : ((9 < x4 → Z l ad D ia C X Y 97 [(0, .ref (ad 20 0)), (2, .int x2), (3, .int x3), (4, .int x3), (5, .int ((-4))), (6, .int 0)] [] s) ∧ (¬ 9 < x4 → (∃ (r3 : Int32) (s2 : ZS), Ev l ad D ia d mX9_isSoWith [.ref (ad 20 0), .int ((3 * x1) + 1), .int x4] s (some (.int r3)) s2 ∧ ((r3 = 0 → Z l ad D ia C X Y 22 [(0, .ref (ad 20 0)), (1, .int x1), (2, .int x2), (3, .int x3), (4, .int (x4 + 1))] [] s2) ∧ (¬ r3 = 0 → Z l ad D ia C X Y 46 [(0, .ref (ad 20 0)), (1, .int x1), (2, .int x2), (3, .int x3), (4, .int x4), (5, .int 0)] [] s2)))))) : Z l ad D ia C X Y 22 [(0, .ref (ad 20 0)), (1, .int x1), (2, .int x2), (3, .int x3), (4, .int x4)] [] s := by
  refine Z_iload hC dX9_ask_22 rfl ?_
  refine Z_bipush (v := 9) hC dX9_ask_24 rfl ?_
  refine Z_icmp_gt (tgt := 87) hC dX9_ask_26 (by decide) (fun c1 => ?_) (fun c1 => ?_)
  · have k := k.1 c1
    refine Z_iload_n hC dX9_ask_87 rfl rfl ?_
    refine Z_istore (V2 := [(4, .int x3), (0, .ref (ad 20 0)), (1, .int x1), (2, .int x2), (3, .int x3)]) hC dX9_ask_88 (by decide) rfl ?_
    refine Z_bipush (v := (-4)) hC dX9_ask_90 rfl ?_
    refine Z_istore (V2 := [(5, .int ((-4))), (4, .int x3), (0, .ref (ad 20 0)), (1, .int x1), (2, .int x2), (3, .int x3)]) hC dX9_ask_92 (by decide) rfl ?_
    refine Z_iconst (v := 0) hC dX9_ask_94 rfl ?_
    refine Z_istore (V2 := [(6, .int 0), (5, .int ((-4))), (4, .int x3), (0, .ref (ad 20 0)), (1, .int x1), (2, .int x2), (3, .int x3)]) hC dX9_ask_95 (by decide) rfl ?_
    exact Z_pick [3, 5, 6, 2, 1, 0] rfl k
  · have k := k.2 c1
    refine Z_aload_n hC dX9_ask_29 rfl rfl ?_
    refine Z_iconst (v := 3) hC dX9_ask_30 rfl ?_
    refine Z_iload_n hC dX9_ask_31 rfl rfl ?_
    refine Z_imul hC dX9_ask_32 ?_
    refine Z_iconst (v := 1) hC dX9_ask_33 rfl ?_
    refine Z_iadd hC dX9_ask_34 ?_
    refine Z_iload hC dX9_ask_35 rfl ?_
    obtain ⟨r3, s2, h4, k⟩ := k
    refine Z_callV (As := [.int ((3 * x1) + 1), .int x4]) (rest := []) hC h4 cvX9_303 ⟨9, rfl, zs_9, _, rfl, rfl⟩ rfl rfl (Nat.le_of_ble_eq_true rfl) dX9_ask_37 ?_
    refine Z_if_eq (tgt := 81) hC dX9_ask_40 (by decide) (fun c5 => ?_) (fun c5 => ?_)
    · have k := k.1 c5
      refine Z_iinc (v := x4 + 1) (V2 := [(4, .int (x4 + 1)), (0, .ref (ad 20 0)), (1, .int x1), (2, .int x2), (3, .int x3)]) hC dX9_ask_81 rfl rfl (by decide) rfl ?_
      refine Z_goto (tgt := 22) hC dX9_ask_84 (by decide) ?_
      exact Z_pick [1, 2, 3, 4, 0] rfl k
    · have k := k.2 c5
      refine Z_iconst (v := 0) hC dX9_ask_43 rfl ?_
      refine Z_istore (V2 := [(5, .int 0), (0, .ref (ad 20 0)), (1, .int x1), (2, .int x2), (3, .int x3), (4, .int x4)]) hC dX9_ask_44 (by decide) rfl ?_
      exact Z_pick [1, 2, 3, 4, 5, 0] rfl k
set_option maxRecDepth 100000 in
set_option maxHeartbeats 4000000 in
theorem bX9_ask_46 {x1 : Int32} {x2 : Int32} {x3 : Int32} {x4 : Int32} {x5 : Int32} {C : ZC} {X : Option Value} {Y : ZS} {s : ZS} (hC : Zok ad D ia C (d + 1) cX9_ask 11 RX9 (some .int)) (k : ((84 ≤ x5 → Z l ad D ia C X Y 22 [(0, .ref (ad 20 0)), (1, .int x1), (2, .int x2), (3, .int (x3 + 1)), (4, .int (x4 + 1))] [] s) ∧ (¬ 84 ≤ x5 → (vp_in x5 84 ∧ (vp_in ((84 * x3) + x5) 840 ∧ (∀ s4 : ZS, s4 = stA s 20 28 ((84 * x3) + x5).toNatClampNeg ((s 20).2.2 27 x5.toNatClampNeg) → Z l ad D ia C X Y 46 [(0, .ref (ad 20 0)), (1, .int x1), (2, .int x2), (3, .int x3), (4, .int x4), (5, .int (x5 + 1))] [] s4)))))) : Z l ad D ia C X Y 46 [(0, .ref (ad 20 0)), (1, .int x1), (2, .int x2), (3, .int x3), (4, .int x4), (5, .int x5)] [] s := by
  refine Z_iload hC dX9_ask_46 rfl ?_
  refine Z_bipush (v := 84) hC dX9_ask_48 rfl ?_
  refine Z_icmp_ge (tgt := 78) hC dX9_ask_50 (by decide) (fun c1 => ?_) (fun c1 => ?_)
  · have k := k.1 c1
    refine Z_iinc (v := x3 + 1) (V2 := [(3, .int (x3 + 1)), (0, .ref (ad 20 0)), (1, .int x1), (2, .int x2), (4, .int x4), (5, .int x5)]) hC dX9_ask_78 rfl rfl (by decide) rfl ?_
    refine Z_iinc (v := x4 + 1) (V2 := [(4, .int (x4 + 1)), (3, .int (x3 + 1)), (0, .ref (ad 20 0)), (1, .int x1), (2, .int x2), (5, .int x5)]) hC dX9_ask_81 rfl rfl (by decide) rfl ?_
    refine Z_goto (tgt := 22) hC dX9_ask_84 (by decide) ?_
    exact Z_pick [2, 3, 4, 1, 0] rfl k
  · have k := k.2 c1
    refine Z_aload_n hC dX9_ask_53 rfl rfl ?_
    refine Z_get (o := 20) (c := 9) (k := 28) (v := .ref (ad 20 29)) hC rfl zs_9 lkX9_35 rfl dX9_ask_54 ?_
    refine Z_bipush (v := 84) hC dX9_ask_57 rfl ?_
    refine Z_iload_n hC dX9_ask_59 rfl rfl ?_
    refine Z_imul hC dX9_ask_60 ?_
    refine Z_iload hC dX9_ask_61 rfl ?_
    refine Z_iadd hC dX9_ask_63 ?_
    refine Z_aload_n hC dX9_ask_64 rfl rfl ?_
    refine Z_get (o := 20) (c := 9) (k := 27) (v := .ref (ad 20 28)) hC rfl zs_9 lkX9_32 rfl dX9_ask_65 ?_
    refine Z_iload hC dX9_ask_68 rfl ?_
    obtain ⟨h2, k⟩ := k
    refine Z_iald (o := 20) (k := 27) hC (zis_of rfl rfl) h2 dX9_ask_70 ?_
    obtain ⟨h3, k⟩ := k
    refine Z_iast2 (o := 20) (k := 28) hC (zis_of rfl rfl) h3 dX9_ask_71 (fun s4 es4 => ?_)
    have k := k s4 es4
    refine Z_iinc (v := x5 + 1) (V2 := [(5, .int (x5 + 1)), (0, .ref (ad 20 0)), (1, .int x1), (2, .int x2), (3, .int x3), (4, .int x4)]) hC dX9_ask_72 rfl rfl (by decide) rfl ?_
    refine Z_goto (tgt := 46) hC dX9_ask_75 (by decide) ?_
    exact Z_pick [1, 2, 3, 4, 5, 0] rfl k
set_option maxRecDepth 100000 in
set_option maxHeartbeats 4000000 in
theorem bX9_ask_97 {x2 : Int32} {x3 : Int32} {x4 : Int32} {x5 : Int32} {x6 : Int32} {C : ZC} {X : Option Value} {Y : ZS} {s : ZS} (hC : Zok ad D ia C (d + 1) cX9_ask 11 RX9 (some .int)) (k : ((84 ≤ x6 → ((¬ x5 = ((-4)) → ((¬ x2 = 0 → (X = some (.int x4) ∧ Y = s)) ∧ (x2 = 0 → (X = some (.int ((10 * (x5 / 4)) + (rm32 x5 4))) ∧ Y = s)))) ∧ (x5 = ((-4)) → (X = some (.int ((-4))) ∧ Y = s)))) ∧ (¬ 84 ≤ x6 → Z l ad D ia C X Y 110 [(0, .ref (ad 20 0)), (2, .int x2), (3, .int x3), (4, .int x4), (5, .int x5), (6, .int x6), (7, .int 0), (8, .int 0)] [] s))) : Z l ad D ia C X Y 97 [(0, .ref (ad 20 0)), (2, .int x2), (3, .int x3), (4, .int x4), (5, .int x5), (6, .int x6)] [] s := by
  refine Z_iload hC dX9_ask_97 rfl ?_
  refine Z_bipush (v := 84) hC dX9_ask_99 rfl ?_
  refine Z_icmp_ge (tgt := 230) hC dX9_ask_101 (by decide) (fun c1 => ?_) (fun c1 => ?_)
  · have k := k.1 c1
    refine Z_iload hC dX9_ask_230 rfl ?_
    refine Z_bipush (v := (-4)) hC dX9_ask_232 rfl ?_
    refine Z_icmp_ne (tgt := 242) hC dX9_ask_234 (by decide) (fun c2 => ?_) (fun c2 => ?_)
    · have k := k.1 c2
      refine Z_iload_n hC dX9_ask_242 rfl rfl ?_
      refine Z_if_ne (tgt := 261) hC dX9_ask_243 (by decide) (fun c3 => ?_) (fun c3 => ?_)
      · have k := k.1 c3
        refine Z_iload hC dX9_ask_261 rfl ?_
        exact Z_iret hC dX9_ask_263 k.1 k.2
      · have k := k.2 c3
        refine Z_bipush (v := 10) hC dX9_ask_246 rfl ?_
        refine Z_iload hC dX9_ask_248 rfl ?_
        refine Z_iconst (v := 4) hC dX9_ask_250 rfl ?_
        refine Z_idiv hC dX9_ask_251 (by decide) ?_
        refine Z_imul hC dX9_ask_252 ?_
        refine Z_iload hC dX9_ask_253 rfl ?_
        refine Z_iconst (v := 4) hC dX9_ask_255 rfl ?_
        refine Z_irem2 hC dX9_ask_256 (by decide) ?_
        refine Z_iadd hC dX9_ask_257 ?_
        refine Z_goto (tgt := 263) hC dX9_ask_258 (by decide) ?_
        exact Z_iret hC dX9_ask_263 k.1 k.2
    · have k := k.2 c2
      refine Z_bipush (v := (-4)) hC dX9_ask_237 rfl ?_
      refine Z_goto (tgt := 263) hC dX9_ask_239 (by decide) ?_
      exact Z_iret hC dX9_ask_263 k.1 k.2
  · have k := k.2 c1
    refine Z_iconst (v := 0) hC dX9_ask_104 rfl ?_
    refine Z_istore (V2 := [(7, .int 0), (0, .ref (ad 20 0)), (2, .int x2), (3, .int x3), (4, .int x4), (5, .int x5), (6, .int x6)]) hC dX9_ask_105 (by decide) rfl ?_
    refine Z_iconst (v := 0) hC dX9_ask_107 rfl ?_
    refine Z_istore (V2 := [(8, .int 0), (7, .int 0), (0, .ref (ad 20 0)), (2, .int x2), (3, .int x3), (4, .int x4), (5, .int x5), (6, .int x6)]) hC dX9_ask_108 (by decide) rfl ?_
    exact Z_pick [2, 3, 4, 5, 6, 7, 1, 0] rfl k
set_option maxRecDepth 100000 in
set_option maxHeartbeats 4000000 in
theorem bX9_ask_110 {x2 : Int32} {x3 : Int32} {x4 : Int32} {x5 : Int32} {x6 : Int32} {x7 : Int32} {x8 : Int32} {C : ZC} {X : Option Value} {Y : ZS} {s : ZS} (hC : Zok ad D ia C (d + 1) cX9_ask 11 RX9 (some .int)) (k : ((x3 ≤ x8 → ((((s 20).1 4) ≤ (rm32 x6 4) → Z l ad D ia C X Y 97 [(0, .ref (ad 20 0)), (2, .int x2), (3, .int x3), (4, .int x4), (5, .int x5), (6, .int (x6 + 1))] [] s) ∧ (¬ ((s 20).1 4) ≤ (rm32 x6 4) → ((x4 ≤ x7 → Z l ad D ia C X Y 97 [(0, .ref (ad 20 0)), (2, .int x2), (3, .int x3), (4, .int x4), (5, .int x5), (6, .int (x6 + 1))] [] s) ∧ (¬ x4 ≤ x7 → Z l ad D ia C X Y 97 [(0, .ref (ad 20 0)), (2, .int x2), (3, .int x3), (4, .int x7), (5, .int x6), (6, .int (x6 + 1))] [] s))))) ∧ (¬ x3 ≤ x8 → Z l ad D ia C X Y 122 [(0, .ref (ad 20 0)), (2, .int x2), (3, .int x3), (4, .int x4), (5, .int x5), (6, .int x6), (7, .int x7), (8, .int x8), (9, .int 0), (10, .int 0)] [] s))) : Z l ad D ia C X Y 110 [(0, .ref (ad 20 0)), (2, .int x2), (3, .int x3), (4, .int x4), (5, .int x5), (6, .int x6), (7, .int x7), (8, .int x8)] [] s := by
  refine Z_iload hC dX9_ask_110 rfl ?_
  refine Z_iload_n hC dX9_ask_112 rfl rfl ?_
  refine Z_icmp_ge (tgt := 198) hC dX9_ask_113 (by decide) (fun c1 => ?_) (fun c1 => ?_)
  · have k := k.1 c1
    refine Z_iload hC dX9_ask_198 rfl ?_
    refine Z_iconst (v := 4) hC dX9_ask_200 rfl ?_
    refine Z_irem2 hC dX9_ask_201 (by decide) ?_
    refine Z_aload_n hC dX9_ask_202 rfl rfl ?_
    refine Z_get (o := 20) (c := 9) (k := 4) (v := .int ((s 20).1 4)) hC rfl zs_9 lkX9_73 rfl dX9_ask_203 ?_
    refine Z_icmp_ge (tgt := 224) hC dX9_ask_206 (by decide) (fun c3 => ?_) (fun c3 => ?_)
    · have k := k.1 c3
      refine Z_iinc (v := x6 + 1) (V2 := [(6, .int (x6 + 1)), (0, .ref (ad 20 0)), (2, .int x2), (3, .int x3), (4, .int x4), (5, .int x5), (7, .int x7), (8, .int x8)]) hC dX9_ask_224 rfl rfl (by decide) rfl ?_
      refine Z_goto (tgt := 97) hC dX9_ask_227 (by decide) ?_
      exact Z_pick [1, 2, 3, 4, 5, 0] rfl k
    · have k := k.2 c3
      refine Z_iload hC dX9_ask_209 rfl ?_
      refine Z_iload hC dX9_ask_211 rfl ?_
      refine Z_icmp_ge (tgt := 224) hC dX9_ask_213 (by decide) (fun c4 => ?_) (fun c4 => ?_)
      · have k := k.1 c4
        refine Z_iinc (v := x6 + 1) (V2 := [(6, .int (x6 + 1)), (0, .ref (ad 20 0)), (2, .int x2), (3, .int x3), (4, .int x4), (5, .int x5), (7, .int x7), (8, .int x8)]) hC dX9_ask_224 rfl rfl (by decide) rfl ?_
        refine Z_goto (tgt := 97) hC dX9_ask_227 (by decide) ?_
        exact Z_pick [1, 2, 3, 4, 5, 0] rfl k
      · have k := k.2 c4
        refine Z_iload hC dX9_ask_216 rfl ?_
        refine Z_istore (V2 := [(4, .int x7), (0, .ref (ad 20 0)), (2, .int x2), (3, .int x3), (5, .int x5), (6, .int x6), (7, .int x7), (8, .int x8)]) hC dX9_ask_218 (by decide) rfl ?_
        refine Z_iload hC dX9_ask_220 rfl ?_
        refine Z_istore (V2 := [(5, .int x6), (4, .int x7), (0, .ref (ad 20 0)), (2, .int x2), (3, .int x3), (6, .int x6), (7, .int x7), (8, .int x8)]) hC dX9_ask_222 (by decide) rfl ?_
        refine Z_iinc (v := x6 + 1) (V2 := [(6, .int (x6 + 1)), (5, .int x6), (4, .int x7), (0, .ref (ad 20 0)), (2, .int x2), (3, .int x3), (7, .int x7), (8, .int x8)]) hC dX9_ask_224 rfl rfl (by decide) rfl ?_
        refine Z_goto (tgt := 97) hC dX9_ask_227 (by decide) ?_
        exact Z_pick [3, 4, 5, 2, 1, 0] rfl k
  · have k := k.2 c1
    refine Z_iconst (v := 0) hC dX9_ask_116 rfl ?_
    refine Z_istore (V2 := [(9, .int 0), (0, .ref (ad 20 0)), (2, .int x2), (3, .int x3), (4, .int x4), (5, .int x5), (6, .int x6), (7, .int x7), (8, .int x8)]) hC dX9_ask_117 (by decide) rfl ?_
    refine Z_iconst (v := 0) hC dX9_ask_119 rfl ?_
    refine Z_istore (V2 := [(10, .int 0), (9, .int 0), (0, .ref (ad 20 0)), (2, .int x2), (3, .int x3), (4, .int x4), (5, .int x5), (6, .int x6), (7, .int x7), (8, .int x8)]) hC dX9_ask_120 (by decide) rfl ?_
    exact Z_pick [2, 3, 4, 5, 6, 7, 8, 9, 1, 0] rfl k
set_option maxRecDepth 100000 in
set_option maxHeartbeats 4000000 in
theorem bX9_ask_122 {x2 : Int32} {x3 : Int32} {x4 : Int32} {x5 : Int32} {x6 : Int32} {x7 : Int32} {x8 : Int32} {x9 : Int32} {x10 : Int32} {C : ZC} {X : Option Value} {Y : ZS} {s : ZS} (hC : Zok ad D ia C (d + 1) cX9_ask 11 RX9 (some .int)) (k : ((x3 ≤ x10 → ((x9 ≤ x7 → Z l ad D ia C X Y 110 [(0, .ref (ad 20 0)), (2, .int x2), (3, .int x3), (4, .int x4), (5, .int x5), (6, .int x6), (7, .int x7), (8, .int (x8 + 1))] [] s) ∧ (¬ x9 ≤ x7 → Z l ad D ia C X Y 110 [(0, .ref (ad 20 0)), (2, .int x2), (3, .int x3), (4, .int x4), (5, .int x5), (6, .int x6), (7, .int x9), (8, .int (x8 + 1))] [] s))) ∧ (¬ x3 ≤ x10 → (vp_in ((84 * x8) + x6) 840 ∧ (vp_in ((84 * x10) + x6) 840 ∧ ((¬ ((s 20).2.2 28 ((84 * x8) + x6).toNatClampNeg) = ((s 20).2.2 28 ((84 * x10) + x6).toNatClampNeg) → (∃ (r7 : Int32) (s6 : ZS), Ev l ad D ia d mX9_flag [.int 0] s (some (.int r7)) s6 ∧ Z l ad D ia C X Y 122 [(0, .ref (ad 20 0)), (2, .int x2), (3, .int x3), (4, .int x4), (5, .int x5), (6, .int x6), (7, .int x7), (8, .int x8), (9, .int (x9 + r7)), (10, .int (x10 + 1))] [] s6)) ∧ (((s 20).2.2 28 ((84 * x8) + x6).toNatClampNeg) = ((s 20).2.2 28 ((84 * x10) + x6).toNatClampNeg) → (∃ (r10 : Int32) (s9 : ZS), Ev l ad D ia d mX9_flag [.int 1] s (some (.int r10)) s9 ∧ Z l ad D ia C X Y 122 [(0, .ref (ad 20 0)), (2, .int x2), (3, .int x3), (4, .int x4), (5, .int x5), (6, .int x6), (7, .int x7), (8, .int x8), (9, .int (x9 + r10)), (10, .int (x10 + 1))] [] s9)))))))) : Z l ad D ia C X Y 122 [(0, .ref (ad 20 0)), (2, .int x2), (3, .int x3), (4, .int x4), (5, .int x5), (6, .int x6), (7, .int x7), (8, .int x8), (9, .int x9), (10, .int x10)] [] s := by
  refine Z_iload hC dX9_ask_122 rfl ?_
  refine Z_iload_n hC dX9_ask_124 rfl rfl ?_
  refine Z_icmp_ge (tgt := 176) hC dX9_ask_125 (by decide) (fun c1 => ?_) (fun c1 => ?_)
  · have k := k.1 c1
    refine Z_iload hC dX9_ask_176 rfl ?_
    refine Z_iload hC dX9_ask_178 rfl ?_
    refine Z_icmp_le (tgt := 188) hC dX9_ask_180 (by decide) (fun c2 => ?_) (fun c2 => ?_)
    · have k := k.1 c2
      refine Z_iload hC dX9_ask_188 rfl ?_
      refine Z_istore (V2 := [(7, .int x7), (0, .ref (ad 20 0)), (2, .int x2), (3, .int x3), (4, .int x4), (5, .int x5), (6, .int x6), (8, .int x8), (9, .int x9), (10, .int x10)]) hC dX9_ask_190 (by decide) rfl ?_
      refine Z_iinc (v := x8 + 1) (V2 := [(8, .int (x8 + 1)), (7, .int x7), (0, .ref (ad 20 0)), (2, .int x2), (3, .int x3), (4, .int x4), (5, .int x5), (6, .int x6), (9, .int x9), (10, .int x10)]) hC dX9_ask_192 rfl rfl (by decide) rfl ?_
      refine Z_goto (tgt := 110) hC dX9_ask_195 (by decide) ?_
      exact Z_pick [2, 3, 4, 5, 6, 7, 1, 0] rfl k
    · have k := k.2 c2
      refine Z_iload hC dX9_ask_183 rfl ?_
      refine Z_goto (tgt := 190) hC dX9_ask_185 (by decide) ?_
      refine Z_istore (V2 := [(7, .int x9), (0, .ref (ad 20 0)), (2, .int x2), (3, .int x3), (4, .int x4), (5, .int x5), (6, .int x6), (8, .int x8), (9, .int x9), (10, .int x10)]) hC dX9_ask_190 (by decide) rfl ?_
      refine Z_iinc (v := x8 + 1) (V2 := [(8, .int (x8 + 1)), (7, .int x9), (0, .ref (ad 20 0)), (2, .int x2), (3, .int x3), (4, .int x4), (5, .int x5), (6, .int x6), (9, .int x9), (10, .int x10)]) hC dX9_ask_192 rfl rfl (by decide) rfl ?_
      refine Z_goto (tgt := 110) hC dX9_ask_195 (by decide) ?_
      exact Z_pick [2, 3, 4, 5, 6, 7, 1, 0] rfl k
  · have k := k.2 c1
    refine Z_iload hC dX9_ask_128 rfl ?_
    refine Z_aload_n hC dX9_ask_130 rfl rfl ?_
    refine Z_get (o := 20) (c := 9) (k := 28) (v := .ref (ad 20 29)) hC rfl zs_9 lkX9_35 rfl dX9_ask_131 ?_
    refine Z_bipush (v := 84) hC dX9_ask_134 rfl ?_
    refine Z_iload hC dX9_ask_136 rfl ?_
    refine Z_imul hC dX9_ask_138 ?_
    refine Z_iload hC dX9_ask_139 rfl ?_
    refine Z_iadd hC dX9_ask_141 ?_
    obtain ⟨h3, k⟩ := k
    refine Z_iald (o := 20) (k := 28) hC (zis_of rfl rfl) h3 dX9_ask_142 ?_
    refine Z_aload_n hC dX9_ask_143 rfl rfl ?_
    refine Z_get (o := 20) (c := 9) (k := 28) (v := .ref (ad 20 29)) hC rfl zs_9 lkX9_35 rfl dX9_ask_144 ?_
    refine Z_bipush (v := 84) hC dX9_ask_147 rfl ?_
    refine Z_iload hC dX9_ask_149 rfl ?_
    refine Z_imul hC dX9_ask_151 ?_
    refine Z_iload hC dX9_ask_152 rfl ?_
    refine Z_iadd hC dX9_ask_154 ?_
    obtain ⟨h4, k⟩ := k
    refine Z_iald (o := 20) (k := 28) hC (zis_of rfl rfl) h4 dX9_ask_155 ?_
    refine Z_icmp_ne (tgt := 163) hC dX9_ask_156 (by decide) (fun c5 => ?_) (fun c5 => ?_)
    · have k := k.1 c5
      refine Z_iconst (v := 0) hC dX9_ask_163 rfl ?_
      obtain ⟨r7, s6, h8, k⟩ := k
      refine Z_callS (As := [.int 0]) (rest := [.int x9]) hC h8 csX9_200 rfl rfl (Nat.le_of_ble_eq_true rfl) dX9_ask_164 ?_
      refine Z_iadd hC dX9_ask_167 ?_
      refine Z_istore (V2 := [(9, .int (x9 + r7)), (0, .ref (ad 20 0)), (2, .int x2), (3, .int x3), (4, .int x4), (5, .int x5), (6, .int x6), (7, .int x7), (8, .int x8), (10, .int x10)]) hC dX9_ask_168 (by decide) rfl ?_
      refine Z_iinc (v := x10 + 1) (V2 := [(10, .int (x10 + 1)), (9, .int (x9 + r7)), (0, .ref (ad 20 0)), (2, .int x2), (3, .int x3), (4, .int x4), (5, .int x5), (6, .int x6), (7, .int x7), (8, .int x8)]) hC dX9_ask_170 rfl rfl (by decide) rfl ?_
      refine Z_goto (tgt := 122) hC dX9_ask_173 (by decide) ?_
      exact Z_pick [2, 3, 4, 5, 6, 7, 8, 9, 1, 0] rfl k
    · have k := k.2 c5
      refine Z_iconst (v := 1) hC dX9_ask_159 rfl ?_
      refine Z_goto (tgt := 164) hC dX9_ask_160 (by decide) ?_
      obtain ⟨r10, s9, h11, k⟩ := k
      refine Z_callS (As := [.int 1]) (rest := [.int x9]) hC h11 csX9_200 rfl rfl (Nat.le_of_ble_eq_true rfl) dX9_ask_164 ?_
      refine Z_iadd hC dX9_ask_167 ?_
      refine Z_istore (V2 := [(9, .int (x9 + r10)), (0, .ref (ad 20 0)), (2, .int x2), (3, .int x3), (4, .int x4), (5, .int x5), (6, .int x6), (7, .int x7), (8, .int x8), (10, .int x10)]) hC dX9_ask_168 (by decide) rfl ?_
      refine Z_iinc (v := x10 + 1) (V2 := [(10, .int (x10 + 1)), (9, .int (x9 + r10)), (0, .ref (ad 20 0)), (2, .int x2), (3, .int x3), (4, .int x4), (5, .int x5), (6, .int x6), (7, .int x7), (8, .int x8)]) hC dX9_ask_170 rfl rfl (by decide) rfl ?_
      refine Z_goto (tgt := 122) hC dX9_ask_173 (by decide) ?_
      exact Z_pick [2, 3, 4, 5, 6, 7, 8, 9, 1, 0] rfl k
set_option maxRecDepth 100000 in
set_option maxHeartbeats 4000000 in
theorem bX9_drift_0 {x1 : Int32} {x2 : Int32} {x3 : Int32} {C : ZC} {X : Option Value} {Y : ZS} {s : ZS} (hC : Zok ad D ia C (d + 1) cX9_drift 8 RX9 (some .int)) (k : (∃ (r2 : Int32) (s1 : ZS), Ev l ad D ia d mX9_in [.long x2.toInt64, .long 1, .long ((60))] s (some (.int r2)) s1 ∧ ((r2 = 0 → (X = some (.int ((-1))) ∧ Y = s1)) ∧ (¬ r2 = 0 → (∃ (r6 : Int32) (s5 : ZS), Ev l ad D ia d mX9_isPart [.int x3] s1 (some (.int r6)) s5 ∧ ((¬ r6 = 0 → ((((s5 20).1 3) = 0 → (X = some (.int ((-2))) ∧ Y = s5)) ∧ (¬ ((s5 20).1 3) = 0 → ((¬ ((s5 20).1 4) = 0 → (∃ s11 : ZS, Ev l ad D ia d mX9_starts [.ref (ad 20 0)] s5 none s11 ∧ (∃ s13 : ZS, Ev l ad D ia d mX9_startsCounting [.ref (ad 20 0)] s11 none s13 ∧ Z l ad D ia C X Y 52 [(0, .ref (ad 20 0)), (2, .int x2), (3, .int x3), (4, .int x1), (5, .int 0)] [] s13))) ∧ (((s5 20).1 4) = 0 → (X = some (.int ((-2))) ∧ Y = s5)))))) ∧ (r6 = 0 → (X = some (.int ((-1))) ∧ Y = s5)))))))) : Z l ad D ia C X Y 0 [(0, .ref (ad 20 0)), (1, .int x1), (2, .int x2), (3, .int x3)] [] s := by
  refine Z_iload_n hC dX9_drift_0 rfl rfl ?_
  refine Z_i2l hC dX9_drift_1 ?_
  refine Z_lconst (v := 1) hC dX9_drift_2 rfl ?_
  refine Z_ldc2 hC clX9_248 dX9_drift_3 ?_
  obtain ⟨r2, s1, h3, k⟩ := k
  refine Z_callS (As := [.long x2.toInt64, .long 1, .long ((60))]) (rest := []) hC h3 csX9_78 rfl rfl (Nat.le_of_ble_eq_true rfl) dX9_drift_6 ?_
  refine Z_if_eq (tgt := 19) hC dX9_drift_9 (by decide) (fun c4 => ?_) (fun c4 => ?_)
  · have k := k.1 c4
    refine Z_iconst (v := (-1)) hC dX9_drift_19 rfl ?_
    exact Z_iret hC dX9_drift_20 k.1 k.2
  · have k := k.2 c4
    refine Z_iload_n hC dX9_drift_12 rfl rfl ?_
    obtain ⟨r6, s5, h7, k⟩ := k
    refine Z_callS (As := [.int x3]) (rest := []) hC h7 csX9_253 rfl rfl (Nat.le_of_ble_eq_true rfl) dX9_drift_13 ?_
    refine Z_if_ne (tgt := 21) hC dX9_drift_16 (by decide) (fun c8 => ?_) (fun c8 => ?_)
    · have k := k.1 c8
      refine Z_aload_n hC dX9_drift_21 rfl rfl ?_
      refine Z_get (o := 20) (c := 9) (k := 3) (v := .int ((s5 20).1 3)) hC rfl zs_9 lkX9_70 rfl dX9_drift_22 ?_
      refine Z_if_eq (tgt := 35) hC dX9_drift_25 (by decide) (fun c9 => ?_) (fun c9 => ?_)
      · have k := k.1 c9
        refine Z_bipush (v := (-2)) hC dX9_drift_35 rfl ?_
        exact Z_iret hC dX9_drift_37 k.1 k.2
      · have k := k.2 c9
        refine Z_aload_n hC dX9_drift_28 rfl rfl ?_
        refine Z_get (o := 20) (c := 9) (k := 4) (v := .int ((s5 20).1 4)) hC rfl zs_9 lkX9_73 rfl dX9_drift_29 ?_
        refine Z_if_ne (tgt := 38) hC dX9_drift_32 (by decide) (fun c10 => ?_) (fun c10 => ?_)
        · have k := k.1 c10
          refine Z_iload_n hC dX9_drift_38 rfl rfl ?_
          refine Z_istore (V2 := [(4, .int x1), (0, .ref (ad 20 0)), (1, .int x1), (2, .int x2), (3, .int x3)]) hC dX9_drift_39 (by decide) rfl ?_
          refine Z_aload_n hC dX9_drift_41 rfl rfl ?_
          obtain ⟨s11, h12, k⟩ := k
          refine Z_callV (As := []) (rest := []) hC h12 cvX9_204 ⟨9, rfl, zs_9, _, rfl, rfl⟩ rfl rfl (Nat.le_of_ble_eq_true rfl) dX9_drift_42 ?_
          refine Z_aload_n hC dX9_drift_45 rfl rfl ?_
          obtain ⟨s13, h14, k⟩ := k
          refine Z_callV (As := []) (rest := []) hC h14 cvX9_194 ⟨9, rfl, zs_9, _, rfl, rfl⟩ rfl rfl (Nat.le_of_ble_eq_true rfl) dX9_drift_46 ?_
          refine Z_iconst (v := 0) hC dX9_drift_49 rfl ?_
          refine Z_istore (V2 := [(5, .int 0), (4, .int x1), (0, .ref (ad 20 0)), (1, .int x1), (2, .int x2), (3, .int x3)]) hC dX9_drift_50 (by decide) rfl ?_
          exact Z_pick [2, 4, 5, 1, 0] rfl k
        · have k := k.2 c10
          refine Z_bipush (v := (-2)) hC dX9_drift_35 rfl ?_
          exact Z_iret hC dX9_drift_37 k.1 k.2
    · have k := k.2 c8
      refine Z_iconst (v := (-1)) hC dX9_drift_19 rfl ?_
      exact Z_iret hC dX9_drift_20 k.1 k.2
theorem eX9_drift {x1 : Int32} {x2 : Int32} {x3 : Int32} {X : Option Value} {Y : ZS} {s : ZS} (k : ∀ C : ZC, Zok ad D ia C (d + 1) cX9_drift 8 RX9 (some .int) → (∃ (r2 : Int32) (s1 : ZS), Ev l ad D ia d mX9_in [.long x2.toInt64, .long 1, .long ((60))] s (some (.int r2)) s1 ∧ ((r2 = 0 → (X = some (.int ((-1))) ∧ Y = s1)) ∧ (¬ r2 = 0 → (∃ (r6 : Int32) (s5 : ZS), Ev l ad D ia d mX9_isPart [.int x3] s1 (some (.int r6)) s5 ∧ ((¬ r6 = 0 → ((((s5 20).1 3) = 0 → (X = some (.int ((-2))) ∧ Y = s5)) ∧ (¬ ((s5 20).1 3) = 0 → ((¬ ((s5 20).1 4) = 0 → (∃ s11 : ZS, Ev l ad D ia d mX9_starts [.ref (ad 20 0)] s5 none s11 ∧ (∃ s13 : ZS, Ev l ad D ia d mX9_startsCounting [.ref (ad 20 0)] s11 none s13 ∧ Z l ad D ia C X Y 52 [(0, .ref (ad 20 0)), (2, .int x2), (3, .int x3), (4, .int x1), (5, .int 0)] [] s13))) ∧ (((s5 20).1 4) = 0 → (X = some (.int ((-2))) ∧ Y = s5)))))) ∧ (r6 = 0 → (X = some (.int ((-1))) ∧ Y = s5)))))))) : Ev l ad D ia (d + 1) mX9_drift [.ref (ad 20 0), .int x1, .int x2, .int x3] s X Y :=
  Ev.start (by decide +kernel) (Nat.le_of_ble_eq_true rfl) (fun C hC => bX9_drift_0  hC (k C hC))
set_option maxRecDepth 100000 in
set_option maxHeartbeats 4000000 in
theorem bX9_drift_52 {x2 : Int32} {x3 : Int32} {x4 : Int32} {x5 : Int32} {C : ZC} {X : Option Value} {Y : ZS} {s : ZS} (hC : Zok ad D ia C (d + 1) cX9_drift 8 RX9 (some .int)) (k : ((x2 ≤ x5 → ((¬ x3 = 0 → (X = some (.int ((s 20).1 19)) ∧ Y = s)) ∧ (x3 = 0 → (X = some (.int ((s 20).1 18)) ∧ Y = s)))) ∧ (¬ x2 ≤ x5 → (¬ ((s 20).1 4) = 0 ∧ (¬ ((s 20).1 3) = 0 ∧ (∃ s6 : ZS, Ev l ad D ia d mX9_becomesOf [.ref (ad 20 0), .int (rm32 ((((x4 * ((1103515245))) + 12345) >>> (16 &&& 31)) &&& 32767) ((s 20).1 4)), .int 1, .int (rm32 (((((x4 * ((1103515245))) + 12345) >>> (16 &&& 31)) &&& 32767) / 8) ((s 20).1 3))] s none s6 ∧ (∃ s8 : ZS, Ev l ad D ia d mX9_becomesOf [.ref (ad 20 0), .int (rm32 ((((x4 * ((1103515245))) + 12345) >>> (16 &&& 31)) &&& 32767) ((s 20).1 4)), .int 3, .int 0] s6 none s8 ∧ (vp_in 40 62 ∧ (∀ s13 : ZS, s13 = stA s8 20 1 (40 : Int32).toNatClampNeg (rm32 (((((x4 * ((1103515245))) + 12345) >>> (16 &&& 31)) &&& 32767) / 64) 8) → (∃ s14 : ZS, Ev l ad D ia d mX9_dayGoes [.ref (ad 20 0)] s13 none s14 ∧ Z l ad D ia C X Y 52 [(0, .ref (ad 20 0)), (2, .int x2), (3, .int x3), (4, .int ((x4 * ((1103515245))) + 12345)), (5, .int (x5 + 1))] [] s14)))))))))) : Z l ad D ia C X Y 52 [(0, .ref (ad 20 0)), (2, .int x2), (3, .int x3), (4, .int x4), (5, .int x5)] [] s := by
  refine Z_iload hC dX9_drift_52 rfl ?_
  refine Z_iload_n hC dX9_drift_54 rfl rfl ?_
  refine Z_icmp_ge (tgt := 140) hC dX9_drift_55 (by decide) (fun c1 => ?_) (fun c1 => ?_)
  · have k := k.1 c1
    refine Z_iload_n hC dX9_drift_140 rfl rfl ?_
    refine Z_if_ne (tgt := 151) hC dX9_drift_141 (by decide) (fun c2 => ?_) (fun c2 => ?_)
    · have k := k.1 c2
      refine Z_aload_n hC dX9_drift_151 rfl rfl ?_
      refine Z_get (o := 20) (c := 9) (k := 19) (v := .int ((s 20).1 19)) hC rfl zs_9 lkX9_165 rfl dX9_drift_152 ?_
      exact Z_iret hC dX9_drift_155 k.1 k.2
    · have k := k.2 c2
      refine Z_aload_n hC dX9_drift_144 rfl rfl ?_
      refine Z_get (o := 20) (c := 9) (k := 18) (v := .int ((s 20).1 18)) hC rfl zs_9 lkX9_162 rfl dX9_drift_145 ?_
      refine Z_goto (tgt := 155) hC dX9_drift_148 (by decide) ?_
      exact Z_iret hC dX9_drift_155 k.1 k.2
  · have k := k.2 c1
    refine Z_iload hC dX9_drift_58 rfl ?_
    refine Z_ldcw hC cnX9_306 dX9_drift_60 ?_
    refine Z_imul hC dX9_drift_63 ?_
    refine Z_sipush (v := 12345) hC dX9_drift_64 rfl ?_
    refine Z_iadd hC dX9_drift_67 ?_
    refine Z_istore (V2 := [(4, .int ((x4 * ((1103515245))) + 12345)), (0, .ref (ad 20 0)), (2, .int x2), (3, .int x3), (5, .int x5)]) hC dX9_drift_68 (by decide) rfl ?_
    refine Z_iload hC dX9_drift_70 rfl ?_
    refine Z_bipush (v := 16) hC dX9_drift_72 rfl ?_
    refine Z_ishr hC dX9_drift_74 ?_
    refine Z_sipush (v := 32767) hC dX9_drift_75 rfl ?_
    refine Z_iand hC dX9_drift_78 ?_
    refine Z_istore (V2 := [(6, .int ((((x4 * ((1103515245))) + 12345) >>> (16 &&& 31)) &&& 32767)), (4, .int ((x4 * ((1103515245))) + 12345)), (0, .ref (ad 20 0)), (2, .int x2), (3, .int x3), (5, .int x5)]) hC dX9_drift_79 (by decide) rfl ?_
    refine Z_iload hC dX9_drift_81 rfl ?_
    refine Z_aload_n hC dX9_drift_83 rfl rfl ?_
    refine Z_get (o := 20) (c := 9) (k := 4) (v := .int ((s 20).1 4)) hC rfl zs_9 lkX9_73 rfl dX9_drift_84 ?_
    obtain ⟨h3, k⟩ := k
    refine Z_irem2 hC dX9_drift_87 h3 ?_
    refine Z_istore (V2 := [(7, .int (rm32 ((((x4 * ((1103515245))) + 12345) >>> (16 &&& 31)) &&& 32767) ((s 20).1 4))), (6, .int ((((x4 * ((1103515245))) + 12345) >>> (16 &&& 31)) &&& 32767)), (4, .int ((x4 * ((1103515245))) + 12345)), (0, .ref (ad 20 0)), (2, .int x2), (3, .int x3), (5, .int x5)]) hC dX9_drift_88 (by decide) rfl ?_
    refine Z_aload_n hC dX9_drift_90 rfl rfl ?_
    refine Z_iload hC dX9_drift_91 rfl ?_
    refine Z_iconst (v := 1) hC dX9_drift_93 rfl ?_
    refine Z_iload hC dX9_drift_94 rfl ?_
    refine Z_bipush (v := 8) hC dX9_drift_96 rfl ?_
    refine Z_idiv hC dX9_drift_98 (by decide) ?_
    refine Z_aload_n hC dX9_drift_99 rfl rfl ?_
    refine Z_get (o := 20) (c := 9) (k := 3) (v := .int ((s 20).1 3)) hC rfl zs_9 lkX9_70 rfl dX9_drift_100 ?_
    obtain ⟨h5, k⟩ := k
    refine Z_irem2 hC dX9_drift_103 h5 ?_
    obtain ⟨s6, h7, k⟩ := k
    refine Z_callV (As := [.int (rm32 ((((x4 * ((1103515245))) + 12345) >>> (16 &&& 31)) &&& 32767) ((s 20).1 4)), .int 1, .int (rm32 (((((x4 * ((1103515245))) + 12345) >>> (16 &&& 31)) &&& 32767) / 8) ((s 20).1 3))]) (rest := []) hC h7 cvX9_174 ⟨9, rfl, zs_9, _, rfl, rfl⟩ rfl rfl (Nat.le_of_ble_eq_true rfl) dX9_drift_104 ?_
    refine Z_aload_n hC dX9_drift_107 rfl rfl ?_
    refine Z_iload hC dX9_drift_108 rfl ?_
    refine Z_iconst (v := 3) hC dX9_drift_110 rfl ?_
    refine Z_iconst (v := 0) hC dX9_drift_111 rfl ?_
    obtain ⟨s8, h9, k⟩ := k
    refine Z_callV (As := [.int (rm32 ((((x4 * ((1103515245))) + 12345) >>> (16 &&& 31)) &&& 32767) ((s 20).1 4)), .int 3, .int 0]) (rest := []) hC h9 cvX9_174 ⟨9, rfl, zs_9, _, rfl, rfl⟩ rfl rfl (Nat.le_of_ble_eq_true rfl) dX9_drift_112 ?_
    refine Z_aload_n hC dX9_drift_115 rfl rfl ?_
    refine Z_get (o := 20) (c := 9) (k := 1) (v := .ref (ad 20 2)) hC rfl zs_9 lkX9_13 rfl dX9_drift_116 ?_
    refine Z_bipush (v := 40) hC dX9_drift_119 rfl ?_
    refine Z_iload hC dX9_drift_121 rfl ?_
    refine Z_bipush (v := 64) hC dX9_drift_123 rfl ?_
    refine Z_idiv hC dX9_drift_125 (by decide) ?_
    refine Z_bipush (v := 8) hC dX9_drift_126 rfl ?_
    refine Z_irem2 hC dX9_drift_128 (by decide) ?_
    obtain ⟨h12, k⟩ := k
    refine Z_iast2 (o := 20) (k := 1) hC (zis_of rfl rfl) h12 dX9_drift_129 (fun s13 es13 => ?_)
    have k := k s13 es13
    refine Z_aload_n hC dX9_drift_130 rfl rfl ?_
    obtain ⟨s14, h15, k⟩ := k
    refine Z_callV (As := []) (rest := []) hC h15 cvX9_197 ⟨9, rfl, zs_9, _, rfl, rfl⟩ rfl rfl (Nat.le_of_ble_eq_true rfl) dX9_drift_131 ?_
    refine Z_iinc (v := x5 + 1) (V2 := [(5, .int (x5 + 1)), (7, .int (rm32 ((((x4 * ((1103515245))) + 12345) >>> (16 &&& 31)) &&& 32767) ((s 20).1 4))), (6, .int ((((x4 * ((1103515245))) + 12345) >>> (16 &&& 31)) &&& 32767)), (4, .int ((x4 * ((1103515245))) + 12345)), (0, .ref (ad 20 0)), (2, .int x2), (3, .int x3)]) hC dX9_drift_134 rfl rfl (by decide) rfl ?_
    refine Z_goto (tgt := 52) hC dX9_drift_137 (by decide) ?_
    exact Z_pick [4, 5, 6, 3, 0] rfl k
set_option maxRecDepth 100000 in
set_option maxHeartbeats 4000000 in
theorem bX9_copies_0 {x1 : Int32} {x2 : Int32} {C : ZC} {X : Option Value} {Y : ZS} {s : ZS} (hC : Zok ad D ia C d cX9_copies 4 RX9 none) (k : Z l ad D ia C X Y 2 [(0, .ref (ad 20 0)), (1, .int x1), (2, .int x2), (3, .int 0)] [] s) : Z l ad D ia C X Y 0 [(0, .ref (ad 20 0)), (1, .int x1), (2, .int x2)] [] s := by
  refine Z_iconst (v := 0) hC dX9_copies_0 rfl ?_
  refine Z_istore_n (V2 := [(3, .int 0), (0, .ref (ad 20 0)), (1, .int x1), (2, .int x2)]) hC dX9_copies_1 rfl (by decide) rfl ?_
  exact Z_pick [1, 2, 3, 0] rfl k
theorem eX9_copies {x1 : Int32} {x2 : Int32} {X : Option Value} {Y : ZS} {s : ZS} (k : ∀ C : ZC, Zok ad D ia C d cX9_copies 4 RX9 none → Z l ad D ia C X Y 2 [(0, .ref (ad 20 0)), (1, .int x1), (2, .int x2), (3, .int 0)] [] s) : Ev l ad D ia d mX9_copies [.ref (ad 20 0), .int x1, .int x2] s X Y :=
  Ev.start (by decide +kernel) (Nat.le_of_ble_eq_true rfl) (fun C hC => bX9_copies_0  hC (k C hC))
set_option maxRecDepth 100000 in
set_option maxHeartbeats 4000000 in
theorem bX9_copies_2 {x1 : Int32} {x2 : Int32} {x3 : Int32} {C : ZC} {X : Option Value} {Y : ZS} {s : ZS} (hC : Zok ad D ia C d cX9_copies 4 RX9 none) (k : ((62 ≤ x3 → (X = none ∧ Y = s)) ∧ (¬ 62 ≤ x3 → (vp_in (x2 + x3) 186 ∧ (vp_in (x1 + x3) 186 ∧ (∀ s4 : ZS, s4 = stA s 20 0 (x1 + x3).toNatClampNeg ((s 20).2.2 0 (x2 + x3).toNatClampNeg) → Z l ad D ia C X Y 2 [(0, .ref (ad 20 0)), (1, .int x1), (2, .int x2), (3, .int (x3 + 1))] [] s4)))))) : Z l ad D ia C X Y 2 [(0, .ref (ad 20 0)), (1, .int x1), (2, .int x2), (3, .int x3)] [] s := by
  refine Z_iload_n hC dX9_copies_2 rfl rfl ?_
  refine Z_bipush (v := 62) hC dX9_copies_3 rfl ?_
  refine Z_icmp_ge (tgt := 30) hC dX9_copies_5 (by decide) (fun c1 => ?_) (fun c1 => ?_)
  · have k := k.1 c1
    exact Z_vret hC dX9_copies_30 k.1 k.2
  · have k := k.2 c1
    refine Z_aload_n hC dX9_copies_8 rfl rfl ?_
    refine Z_get (o := 20) (c := 9) (k := 0) (v := .ref (ad 20 1)) hC rfl zs_9 lkX9_7 rfl dX9_copies_9 ?_
    refine Z_iload_n hC dX9_copies_12 rfl rfl ?_
    refine Z_iload_n hC dX9_copies_13 rfl rfl ?_
    refine Z_iadd hC dX9_copies_14 ?_
    refine Z_aload_n hC dX9_copies_15 rfl rfl ?_
    refine Z_get (o := 20) (c := 9) (k := 0) (v := .ref (ad 20 1)) hC rfl zs_9 lkX9_7 rfl dX9_copies_16 ?_
    refine Z_iload_n hC dX9_copies_19 rfl rfl ?_
    refine Z_iload_n hC dX9_copies_20 rfl rfl ?_
    refine Z_iadd hC dX9_copies_21 ?_
    obtain ⟨h2, k⟩ := k
    refine Z_iald (o := 20) (k := 0) hC (zis_of rfl rfl) h2 dX9_copies_22 ?_
    obtain ⟨h3, k⟩ := k
    refine Z_iast2 (o := 20) (k := 0) hC (zis_of rfl rfl) h3 dX9_copies_23 (fun s4 es4 => ?_)
    have k := k s4 es4
    refine Z_iinc (v := x3 + 1) (V2 := [(3, .int (x3 + 1)), (0, .ref (ad 20 0)), (1, .int x1), (2, .int x2)]) hC dX9_copies_24 rfl rfl (by decide) rfl ?_
    refine Z_goto (tgt := 2) hC dX9_copies_27 (by decide) ?_
    exact Z_pick [1, 2, 3, 0] rfl k
set_option maxRecDepth 100000 in
set_option maxHeartbeats 4000000 in
theorem bX9_keep_0 {x1 : Int32} {C : ZC} {X : Option Value} {Y : ZS} {s : ZS} (hC : Zok ad D ia C (d + 1) cX9_keep 3 RX9 (some .int)) (k : (∃ (r2 : Int32) (s1 : ZS), Ev l ad D ia d mX9_in [.long x1.toInt64, .long 0, .long 1] s (some (.int r2)) s1 ∧ ((¬ r2 = 0 → (vp_in x1 2 ∧ (∃ (r7 : Int32) (s6 : ZS), Ev l ad D ia d mX9_flag [.int ((s1 20).2.2 2 x1.toNatClampNeg)] s1 (some (.int r7)) s6 ∧ (vp_in x1 2 ∧ (∀ s10 : ZS, s10 = stA s6 20 2 x1.toNatClampNeg (vp_nar .boolean 1) → (∃ s11 : ZS, Ev l ad D ia d mX9_copies [.ref (ad 20 0), .int (62 * (x1 + 1)), .int 0] s10 none s11 ∧ (X = some (.int r7) ∧ Y = s11))))))) ∧ (r2 = 0 → (X = some (.int ((-1))) ∧ Y = s1))))) : Z l ad D ia C X Y 0 [(0, .ref (ad 20 0)), (1, .int x1)] [] s := by
  refine Z_iload_n hC dX9_keep_0 rfl rfl ?_
  refine Z_i2l hC dX9_keep_1 ?_
  refine Z_lconst (v := 0) hC dX9_keep_2 rfl ?_
  refine Z_lconst (v := 1) hC dX9_keep_3 rfl ?_
  obtain ⟨r2, s1, h3, k⟩ := k
  refine Z_callS (As := [.long x1.toInt64, .long 0, .long 1]) (rest := []) hC h3 csX9_78 rfl rfl (Nat.le_of_ble_eq_true rfl) dX9_keep_4 ?_
  refine Z_if_ne (tgt := 12) hC dX9_keep_7 (by decide) (fun c4 => ?_) (fun c4 => ?_)
  · have k := k.1 c4
    refine Z_aload_n hC dX9_keep_12 rfl rfl ?_
    refine Z_get (o := 20) (c := 9) (k := 2) (v := .ref (ad 20 3)) hC rfl zs_9 lkX9_16 rfl dX9_keep_13 ?_
    refine Z_iload_n hC dX9_keep_16 rfl rfl ?_
    obtain ⟨h5, k⟩ := k
    refine Z_zald (o := 20) (k := 2) hC (zis_of rfl rfl) h5 dX9_keep_17 ?_
    obtain ⟨r7, s6, h8, k⟩ := k
    refine Z_callS (As := [.int ((s1 20).2.2 2 x1.toNatClampNeg)]) (rest := []) hC h8 csX9_200 rfl rfl (Nat.le_of_ble_eq_true rfl) dX9_keep_18 ?_
    refine Z_istore_n (V2 := [(2, .int r7), (0, .ref (ad 20 0)), (1, .int x1)]) hC dX9_keep_21 rfl (by decide) rfl ?_
    refine Z_aload_n hC dX9_keep_22 rfl rfl ?_
    refine Z_get (o := 20) (c := 9) (k := 2) (v := .ref (ad 20 3)) hC rfl zs_9 lkX9_16 rfl dX9_keep_23 ?_
    refine Z_iload_n hC dX9_keep_26 rfl rfl ?_
    refine Z_iconst (v := 1) hC dX9_keep_27 rfl ?_
    obtain ⟨h9, k⟩ := k
    refine Z_zast2 (o := 20) (k := 2) hC (zis_of rfl rfl) h9 dX9_keep_28 (fun s10 es10 => ?_)
    have k := k s10 es10
    refine Z_aload_n hC dX9_keep_29 rfl rfl ?_
    refine Z_bipush (v := 62) hC dX9_keep_30 rfl ?_
    refine Z_iload_n hC dX9_keep_32 rfl rfl ?_
    refine Z_iconst (v := 1) hC dX9_keep_33 rfl ?_
    refine Z_iadd hC dX9_keep_34 ?_
    refine Z_imul hC dX9_keep_35 ?_
    refine Z_iconst (v := 0) hC dX9_keep_36 rfl ?_
    obtain ⟨s11, h12, k⟩ := k
    refine Z_callV (As := [.int (62 * (x1 + 1)), .int 0]) (rest := []) hC h12 cvX9_307 ⟨9, rfl, zs_9, _, rfl, rfl⟩ rfl rfl (Nat.le_of_ble_eq_true rfl) dX9_keep_37 ?_
    refine Z_iload_n hC dX9_keep_40 rfl rfl ?_
    exact Z_iret hC dX9_keep_41 k.1 k.2
  · have k := k.2 c4
    refine Z_iconst (v := (-1)) hC dX9_keep_10 rfl ?_
    exact Z_iret hC dX9_keep_11 k.1 k.2
theorem eX9_keep {x1 : Int32} {X : Option Value} {Y : ZS} {s : ZS} (k : (∃ (r2 : Int32) (s1 : ZS), Ev l ad D ia d mX9_in [.long x1.toInt64, .long 0, .long 1] s (some (.int r2)) s1 ∧ ((¬ r2 = 0 → (vp_in x1 2 ∧ (∃ (r7 : Int32) (s6 : ZS), Ev l ad D ia d mX9_flag [.int ((s1 20).2.2 2 x1.toNatClampNeg)] s1 (some (.int r7)) s6 ∧ (vp_in x1 2 ∧ (∀ s10 : ZS, s10 = stA s6 20 2 x1.toNatClampNeg (vp_nar .boolean 1) → (∃ s11 : ZS, Ev l ad D ia d mX9_copies [.ref (ad 20 0), .int (62 * (x1 + 1)), .int 0] s10 none s11 ∧ (X = some (.int r7) ∧ Y = s11))))))) ∧ (r2 = 0 → (X = some (.int ((-1))) ∧ Y = s1))))) : Ev l ad D ia (d + 1) mX9_keep [.ref (ad 20 0), .int x1] s X Y :=
  Ev.start (by decide +kernel) (Nat.le_of_ble_eq_true rfl) (fun C hC => bX9_keep_0  hC k)
set_option maxRecDepth 100000 in
set_option maxHeartbeats 4000000 in
theorem bX9_back_0 {x1 : Int32} {C : ZC} {X : Option Value} {Y : ZS} {s : ZS} (hC : Zok ad D ia C (d + 1) cX9_back 2 RX9 (some .int)) (k : (∃ (r2 : Int32) (s1 : ZS), Ev l ad D ia d mX9_in [.long x1.toInt64, .long 0, .long 1] s (some (.int r2)) s1 ∧ ((¬ r2 = 0 → (vp_in x1 2 ∧ ((¬ ((s1 20).2.2 2 x1.toNatClampNeg) = 0 → (∃ s7 : ZS, Ev l ad D ia d mX9_copies [.ref (ad 20 0), .int 0, .int (62 * (x1 + 1))] s1 none s7 ∧ (vp_in 41 186 ∧ (X = some (.int ((s7 20).2.2 0 (41 : Int32).toNatClampNeg)) ∧ Y = s7)))) ∧ (((s1 20).2.2 2 x1.toNatClampNeg) = 0 → (X = some (.int ((-2))) ∧ Y = s1))))) ∧ (r2 = 0 → (X = some (.int ((-1))) ∧ Y = s1))))) : Z l ad D ia C X Y 0 [(0, .ref (ad 20 0)), (1, .int x1)] [] s := by
  refine Z_iload_n hC dX9_back_0 rfl rfl ?_
  refine Z_i2l hC dX9_back_1 ?_
  refine Z_lconst (v := 0) hC dX9_back_2 rfl ?_
  refine Z_lconst (v := 1) hC dX9_back_3 rfl ?_
  obtain ⟨r2, s1, h3, k⟩ := k
  refine Z_callS (As := [.long x1.toInt64, .long 0, .long 1]) (rest := []) hC h3 csX9_78 rfl rfl (Nat.le_of_ble_eq_true rfl) dX9_back_4 ?_
  refine Z_if_ne (tgt := 12) hC dX9_back_7 (by decide) (fun c4 => ?_) (fun c4 => ?_)
  · have k := k.1 c4
    refine Z_aload_n hC dX9_back_12 rfl rfl ?_
    refine Z_get (o := 20) (c := 9) (k := 2) (v := .ref (ad 20 3)) hC rfl zs_9 lkX9_16 rfl dX9_back_13 ?_
    refine Z_iload_n hC dX9_back_16 rfl rfl ?_
    obtain ⟨h5, k⟩ := k
    refine Z_zald (o := 20) (k := 2) hC (zis_of rfl rfl) h5 dX9_back_17 ?_
    refine Z_if_ne (tgt := 24) hC dX9_back_18 (by decide) (fun c6 => ?_) (fun c6 => ?_)
    · have k := k.1 c6
      refine Z_aload_n hC dX9_back_24 rfl rfl ?_
      refine Z_iconst (v := 0) hC dX9_back_25 rfl ?_
      refine Z_bipush (v := 62) hC dX9_back_26 rfl ?_
      refine Z_iload_n hC dX9_back_28 rfl rfl ?_
      refine Z_iconst (v := 1) hC dX9_back_29 rfl ?_
      refine Z_iadd hC dX9_back_30 ?_
      refine Z_imul hC dX9_back_31 ?_
      obtain ⟨s7, h8, k⟩ := k
      refine Z_callV (As := [.int 0, .int (62 * (x1 + 1))]) (rest := []) hC h8 cvX9_307 ⟨9, rfl, zs_9, _, rfl, rfl⟩ rfl rfl (Nat.le_of_ble_eq_true rfl) dX9_back_32 ?_
      refine Z_aload_n hC dX9_back_35 rfl rfl ?_
      refine Z_get (o := 20) (c := 9) (k := 0) (v := .ref (ad 20 1)) hC rfl zs_9 lkX9_7 rfl dX9_back_36 ?_
      refine Z_bipush (v := 41) hC dX9_back_39 rfl ?_
      obtain ⟨h9, k⟩ := k
      refine Z_iald (o := 20) (k := 0) hC (zis_of rfl rfl) h9 dX9_back_41 ?_
      exact Z_iret hC dX9_back_42 k.1 k.2
    · have k := k.2 c6
      refine Z_bipush (v := (-2)) hC dX9_back_21 rfl ?_
      exact Z_iret hC dX9_back_23 k.1 k.2
  · have k := k.2 c4
    refine Z_iconst (v := (-1)) hC dX9_back_10 rfl ?_
    exact Z_iret hC dX9_back_11 k.1 k.2
theorem eX9_back {x1 : Int32} {X : Option Value} {Y : ZS} {s : ZS} (k : (∃ (r2 : Int32) (s1 : ZS), Ev l ad D ia d mX9_in [.long x1.toInt64, .long 0, .long 1] s (some (.int r2)) s1 ∧ ((¬ r2 = 0 → (vp_in x1 2 ∧ ((¬ ((s1 20).2.2 2 x1.toNatClampNeg) = 0 → (∃ s7 : ZS, Ev l ad D ia d mX9_copies [.ref (ad 20 0), .int 0, .int (62 * (x1 + 1))] s1 none s7 ∧ (vp_in 41 186 ∧ (X = some (.int ((s7 20).2.2 0 (41 : Int32).toNatClampNeg)) ∧ Y = s7)))) ∧ (((s1 20).2.2 2 x1.toNatClampNeg) = 0 → (X = some (.int ((-2))) ∧ Y = s1))))) ∧ (r2 = 0 → (X = some (.int ((-1))) ∧ Y = s1))))) : Ev l ad D ia (d + 1) mX9_back [.ref (ad 20 0), .int x1] s X Y :=
  Ev.start (by decide +kernel) (Nat.le_of_ble_eq_true rfl) (fun C hC => bX9_back_0  hC k)
set_option maxRecDepth 100000 in
set_option maxHeartbeats 4000000 in
theorem bX9_isSheet_0 {x0 : Int32} {x1 : Int32} {C : ZC} {X : Option Value} {Y : ZS} {s : ZS} (hC : Zok ad D ia C (d + 1) cX9_isSheet 2 RX9 (some .boolean)) (k : (∃ (r2 : Int32) (s1 : ZS), Ev l ad D ia d mX9_in [.long x0.toInt64, .long 0, .long ((3))] s (some (.int r2)) s1 ∧ ((r2 = 0 → (X = some (.int 0) ∧ Y = s1)) ∧ (¬ r2 = 0 → (∃ (r6 : Int32) (s5 : ZS), Ev l ad D ia d mX9_in [.long x1.toInt64, .long 0, .long ((2))] s1 (some (.int r6)) s5 ∧ ((r6 = 0 → (X = some (.int 0) ∧ Y = s5)) ∧ (¬ r6 = 0 → (X = some (.int 1) ∧ Y = s5)))))))) : Z l ad D ia C X Y 0 [(0, .int x0), (1, .int x1)] [] s := by
  refine Z_iload_n hC dX9_isSheet_0 rfl rfl ?_
  refine Z_i2l hC dX9_isSheet_1 ?_
  refine Z_lconst (v := 0) hC dX9_isSheet_2 rfl ?_
  refine Z_ldc2 hC clX9_214 dX9_isSheet_3 ?_
  obtain ⟨r2, s1, h3, k⟩ := k
  refine Z_callS (As := [.long x0.toInt64, .long 0, .long ((3))]) (rest := []) hC h3 csX9_78 rfl rfl (Nat.le_of_ble_eq_true rfl) dX9_isSheet_6 ?_
  refine Z_if_eq (tgt := 28) hC dX9_isSheet_9 (by decide) (fun c4 => ?_) (fun c4 => ?_)
  · have k := k.1 c4
    refine Z_iconst (v := 0) hC dX9_isSheet_28 rfl ?_
    exact Z_zret hC dX9_isSheet_29 rfl k.1 k.2
  · have k := k.2 c4
    refine Z_iload_n hC dX9_isSheet_12 rfl rfl ?_
    refine Z_i2l hC dX9_isSheet_13 ?_
    refine Z_lconst (v := 0) hC dX9_isSheet_14 rfl ?_
    refine Z_ldc2 hC clX9_310 dX9_isSheet_15 ?_
    obtain ⟨r6, s5, h7, k⟩ := k
    refine Z_callS (As := [.long x1.toInt64, .long 0, .long ((2))]) (rest := []) hC h7 csX9_78 rfl rfl (Nat.le_of_ble_eq_true rfl) dX9_isSheet_18 ?_
    refine Z_if_eq (tgt := 28) hC dX9_isSheet_21 (by decide) (fun c8 => ?_) (fun c8 => ?_)
    · have k := k.1 c8
      refine Z_iconst (v := 0) hC dX9_isSheet_28 rfl ?_
      exact Z_zret hC dX9_isSheet_29 rfl k.1 k.2
    · have k := k.2 c8
      refine Z_iconst (v := 1) hC dX9_isSheet_24 rfl ?_
      refine Z_goto (tgt := 29) hC dX9_isSheet_25 (by decide) ?_
      exact Z_zret hC dX9_isSheet_29 rfl k.1 k.2
theorem eX9_isSheet {x0 : Int32} {x1 : Int32} {X : Option Value} {Y : ZS} {s : ZS} (k : (∃ (r2 : Int32) (s1 : ZS), Ev l ad D ia d mX9_in [.long x0.toInt64, .long 0, .long ((3))] s (some (.int r2)) s1 ∧ ((r2 = 0 → (X = some (.int 0) ∧ Y = s1)) ∧ (¬ r2 = 0 → (∃ (r6 : Int32) (s5 : ZS), Ev l ad D ia d mX9_in [.long x1.toInt64, .long 0, .long ((2))] s1 (some (.int r6)) s5 ∧ ((r6 = 0 → (X = some (.int 0) ∧ Y = s5)) ∧ (¬ r6 = 0 → (X = some (.int 1) ∧ Y = s5)))))))) : Ev l ad D ia (d + 1) mX9_isSheet [.int x0, .int x1] s X Y :=
  Ev.start (by decide +kernel) (Nat.le_of_ble_eq_true rfl) (fun C hC => bX9_isSheet_0  hC k)
set_option maxRecDepth 100000 in
set_option maxHeartbeats 4000000 in
theorem bX9_sheet_0 {x1 : Int32} {x2 : Int32} {x3 : Int32} {C : ZC} {X : Option Value} {Y : ZS} {s : ZS} (hC : Zok ad D ia C (d + 1) cX9_sheet 5 RX9 (some .int)) (k : (∃ (r2 : Int32) (s1 : ZS), Ev l ad D ia d mX9_isSheet [.int x1, .int x2] s (some (.int r2)) s1 ∧ ((r2 = 0 → (X = some (.int ((-1))) ∧ Y = s1)) ∧ (¬ r2 = 0 → ((x3 ≤ 40 → ((0 ≤ x3 → (vp_in x1 4 ∧ (∀ s8 : ZS, s8 = stA s1 20 29 x1.toNatClampNeg x2 → (vp_in x1 4 ∧ (∀ s10 : ZS, s10 = stA s8 20 30 x1.toNatClampNeg x3 → Z l ad D ia C X Y 40 [(0, .ref (ad 20 0)), (1, .int x1), (4, .int 0)] [] s10))))) ∧ (¬ 0 ≤ x3 → (X = some (.int ((-14))) ∧ Y = s1)))) ∧ (¬ x3 ≤ 40 → (X = some (.int ((-1))) ∧ Y = s1))))))) : Z l ad D ia C X Y 0 [(0, .ref (ad 20 0)), (1, .int x1), (2, .int x2), (3, .int x3)] [] s := by
  refine Z_iload_n hC dX9_sheet_0 rfl rfl ?_
  refine Z_iload_n hC dX9_sheet_1 rfl rfl ?_
  obtain ⟨r2, s1, h3, k⟩ := k
  refine Z_callS (As := [.int x1, .int x2]) (rest := []) hC h3 csX9_312 rfl rfl (Nat.le_of_ble_eq_true rfl) dX9_sheet_2 ?_
  refine Z_if_eq (tgt := 14) hC dX9_sheet_5 (by decide) (fun c4 => ?_) (fun c4 => ?_)
  · have k := k.1 c4
    refine Z_iconst (v := (-1)) hC dX9_sheet_14 rfl ?_
    exact Z_iret hC dX9_sheet_15 k.1 k.2
  · have k := k.2 c4
    refine Z_iload_n hC dX9_sheet_8 rfl rfl ?_
    refine Z_bipush (v := 40) hC dX9_sheet_9 rfl ?_
    refine Z_icmp_le (tgt := 16) hC dX9_sheet_11 (by decide) (fun c5 => ?_) (fun c5 => ?_)
    · have k := k.1 c5
      refine Z_iload_n hC dX9_sheet_16 rfl rfl ?_
      refine Z_if_ge (tgt := 23) hC dX9_sheet_17 (by decide) (fun c6 => ?_) (fun c6 => ?_)
      · have k := k.1 c6
        refine Z_aload_n hC dX9_sheet_23 rfl rfl ?_
        refine Z_get (o := 20) (c := 9) (k := 29) (v := .ref (ad 20 30)) hC rfl zs_9 lkX9_38 rfl dX9_sheet_24 ?_
        refine Z_iload_n hC dX9_sheet_27 rfl rfl ?_
        refine Z_iload_n hC dX9_sheet_28 rfl rfl ?_
        obtain ⟨h7, k⟩ := k
        refine Z_iast2 (o := 20) (k := 29) hC (zis_of rfl rfl) h7 dX9_sheet_29 (fun s8 es8 => ?_)
        have k := k s8 es8
        refine Z_aload_n hC dX9_sheet_30 rfl rfl ?_
        refine Z_get (o := 20) (c := 9) (k := 30) (v := .ref (ad 20 31)) hC rfl zs_9 lkX9_41 rfl dX9_sheet_31 ?_
        refine Z_iload_n hC dX9_sheet_34 rfl rfl ?_
        refine Z_iload_n hC dX9_sheet_35 rfl rfl ?_
        obtain ⟨h9, k⟩ := k
        refine Z_iast2 (o := 20) (k := 30) hC (zis_of rfl rfl) h9 dX9_sheet_36 (fun s10 es10 => ?_)
        have k := k s10 es10
        refine Z_iconst (v := 0) hC dX9_sheet_37 rfl ?_
        refine Z_istore (V2 := [(4, .int 0), (0, .ref (ad 20 0)), (1, .int x1), (2, .int x2), (3, .int x3)]) hC dX9_sheet_38 (by decide) rfl ?_
        exact Z_pick [1, 2, 0] rfl k
      · have k := k.2 c6
        refine Z_bipush (v := (-14)) hC dX9_sheet_20 rfl ?_
        exact Z_iret hC dX9_sheet_22 k.1 k.2
    · have k := k.2 c5
      refine Z_iconst (v := (-1)) hC dX9_sheet_14 rfl ?_
      exact Z_iret hC dX9_sheet_15 k.1 k.2
theorem eX9_sheet {x1 : Int32} {x2 : Int32} {x3 : Int32} {X : Option Value} {Y : ZS} {s : ZS} (k : ∀ C : ZC, Zok ad D ia C (d + 1) cX9_sheet 5 RX9 (some .int) → (∃ (r2 : Int32) (s1 : ZS), Ev l ad D ia d mX9_isSheet [.int x1, .int x2] s (some (.int r2)) s1 ∧ ((r2 = 0 → (X = some (.int ((-1))) ∧ Y = s1)) ∧ (¬ r2 = 0 → ((x3 ≤ 40 → ((0 ≤ x3 → (vp_in x1 4 ∧ (∀ s8 : ZS, s8 = stA s1 20 29 x1.toNatClampNeg x2 → (vp_in x1 4 ∧ (∀ s10 : ZS, s10 = stA s8 20 30 x1.toNatClampNeg x3 → Z l ad D ia C X Y 40 [(0, .ref (ad 20 0)), (1, .int x1), (4, .int 0)] [] s10))))) ∧ (¬ 0 ≤ x3 → (X = some (.int ((-14))) ∧ Y = s1)))) ∧ (¬ x3 ≤ 40 → (X = some (.int ((-1))) ∧ Y = s1))))))) : Ev l ad D ia (d + 1) mX9_sheet [.ref (ad 20 0), .int x1, .int x2, .int x3] s X Y :=
  Ev.start (by decide +kernel) (Nat.le_of_ble_eq_true rfl) (fun C hC => bX9_sheet_0  hC (k C hC))
set_option maxRecDepth 100000 in
set_option maxHeartbeats 4000000 in
theorem bX9_sheet_40 {x1 : Int32} {x4 : Int32} {C : ZC} {X : Option Value} {Y : ZS} {s : ZS} (hC : Zok ad D ia C (d + 1) cX9_sheet 5 RX9 (some .int)) (k : ((40 ≤ x4 → (X = some (.int 1) ∧ Y = s)) ∧ (¬ 40 ≤ x4 → (vp_in ((40 * x1) + x4) 160 ∧ (∀ s3 : ZS, s3 = stA s 20 31 ((40 * x1) + x4).toNatClampNeg 0 → Z l ad D ia C X Y 40 [(0, .ref (ad 20 0)), (1, .int x1), (4, .int (x4 + 1))] [] s3))))) : Z l ad D ia C X Y 40 [(0, .ref (ad 20 0)), (1, .int x1), (4, .int x4)] [] s := by
  refine Z_iload hC dX9_sheet_40 rfl ?_
  refine Z_bipush (v := 40) hC dX9_sheet_42 rfl ?_
  refine Z_icmp_ge (tgt := 66) hC dX9_sheet_44 (by decide) (fun c1 => ?_) (fun c1 => ?_)
  · have k := k.1 c1
    refine Z_iconst (v := 1) hC dX9_sheet_66 rfl ?_
    exact Z_iret hC dX9_sheet_67 k.1 k.2
  · have k := k.2 c1
    refine Z_aload_n hC dX9_sheet_47 rfl rfl ?_
    refine Z_get (o := 20) (c := 9) (k := 31) (v := .ref (ad 20 32)) hC rfl zs_9 lkX9_44 rfl dX9_sheet_48 ?_
    refine Z_bipush (v := 40) hC dX9_sheet_51 rfl ?_
    refine Z_iload_n hC dX9_sheet_53 rfl rfl ?_
    refine Z_imul hC dX9_sheet_54 ?_
    refine Z_iload hC dX9_sheet_55 rfl ?_
    refine Z_iadd hC dX9_sheet_57 ?_
    refine Z_iconst (v := 0) hC dX9_sheet_58 rfl ?_
    obtain ⟨h2, k⟩ := k
    refine Z_iast2 (o := 20) (k := 31) hC (zis_of rfl rfl) h2 dX9_sheet_59 (fun s3 es3 => ?_)
    have k := k s3 es3
    refine Z_iinc (v := x4 + 1) (V2 := [(4, .int (x4 + 1)), (0, .ref (ad 20 0)), (1, .int x1)]) hC dX9_sheet_60 rfl rfl (by decide) rfl ?_
    refine Z_goto (tgt := 40) hC dX9_sheet_63 (by decide) ?_
    exact Z_pick [1, 2, 0] rfl k
set_option maxRecDepth 100000 in
set_option maxHeartbeats 4000000 in
theorem bX9_lay_0 {x1 : Int32} {x2 : Int32} {x3 : Int32} {C : ZC} {X : Option Value} {Y : ZS} {s : ZS} (hC : Zok ad D ia C (d + 1) cX9_lay 4 RX9 (some .int)) (k : (∃ (r2 : Int32) (s1 : ZS), Ev l ad D ia d mX9_isSheet [.int x1, .int 0] s (some (.int r2)) s1 ∧ ((¬ r2 = 0 → (vp_in x1 4 ∧ ((¬ ((s1 20).2.2 29 x1.toNatClampNeg) = ((-4)) → (vp_in x1 4 ∧ (∃ (r9 : Int32) (s8 : ZS), Ev l ad D ia d mX9_in [.long x2.toInt64, .long 0, .long ((((s1 20).2.2 30 x1.toNatClampNeg) - 1).toInt64)] s1 (some (.int r9)) s8 ∧ ((¬ r9 = 0 → (vp_in x1 4 ∧ ((¬ ((s8 20).2.2 29 x1.toNatClampNeg) = 0 → (vp_in x1 4 ∧ ((¬ ((s8 20).2.2 29 x1.toNatClampNeg) = 1 → (vp_in ((40 * x1) + x2) 160 ∧ (∀ s17 : ZS, s17 = stA s8 20 31 ((40 * x1) + x2).toNatClampNeg x3 → (X = some (.int 1) ∧ Y = s17)))) ∧ (((s8 20).2.2 29 x1.toNatClampNeg) = 1 → (vp_in ((40 * x1) + x2) 160 ∧ (∀ s19 : ZS, s19 = stA s8 20 31 ((40 * x1) + x2).toNatClampNeg x3.toInt16.toInt32 → (X = some (.int 1) ∧ Y = s19))))))) ∧ (((s8 20).2.2 29 x1.toNatClampNeg) = 0 → (vp_in ((40 * x1) + x2) 160 ∧ (∀ s21 : ZS, s21 = stA s8 20 31 ((40 * x1) + x2).toNatClampNeg x3.toInt8.toInt32 → (X = some (.int 1) ∧ Y = s21))))))) ∧ (r9 = 0 → (X = some (.int ((-12))) ∧ Y = s8)))))) ∧ (((s1 20).2.2 29 x1.toNatClampNeg) = ((-4)) → (X = some (.int ((-11))) ∧ Y = s1))))) ∧ (r2 = 0 → (X = some (.int ((-1))) ∧ Y = s1))))) : Z l ad D ia C X Y 0 [(0, .ref (ad 20 0)), (1, .int x1), (2, .int x2), (3, .int x3)] [] s := by
  refine Z_iload_n hC dX9_lay_0 rfl rfl ?_
  refine Z_iconst (v := 0) hC dX9_lay_1 rfl ?_
  obtain ⟨r2, s1, h3, k⟩ := k
  refine Z_callS (As := [.int x1, .int 0]) (rest := []) hC h3 csX9_312 rfl rfl (Nat.le_of_ble_eq_true rfl) dX9_lay_2 ?_
  refine Z_if_ne (tgt := 10) hC dX9_lay_5 (by decide) (fun c4 => ?_) (fun c4 => ?_)
  · have k := k.1 c4
    refine Z_aload_n hC dX9_lay_10 rfl rfl ?_
    refine Z_get (o := 20) (c := 9) (k := 29) (v := .ref (ad 20 30)) hC rfl zs_9 lkX9_38 rfl dX9_lay_11 ?_
    refine Z_iload_n hC dX9_lay_14 rfl rfl ?_
    obtain ⟨h5, k⟩ := k
    refine Z_iald (o := 20) (k := 29) hC (zis_of rfl rfl) h5 dX9_lay_15 ?_
    refine Z_bipush (v := (-4)) hC dX9_lay_16 rfl ?_
    refine Z_icmp_ne (tgt := 24) hC dX9_lay_18 (by decide) (fun c6 => ?_) (fun c6 => ?_)
    · have k := k.1 c6
      refine Z_iload_n hC dX9_lay_24 rfl rfl ?_
      refine Z_i2l hC dX9_lay_25 ?_
      refine Z_lconst (v := 0) hC dX9_lay_26 rfl ?_
      refine Z_aload_n hC dX9_lay_27 rfl rfl ?_
      refine Z_get (o := 20) (c := 9) (k := 30) (v := .ref (ad 20 31)) hC rfl zs_9 lkX9_41 rfl dX9_lay_28 ?_
      refine Z_iload_n hC dX9_lay_31 rfl rfl ?_
      obtain ⟨h7, k⟩ := k
      refine Z_iald (o := 20) (k := 30) hC (zis_of rfl rfl) h7 dX9_lay_32 ?_
      refine Z_iconst (v := 1) hC dX9_lay_33 rfl ?_
      refine Z_isub hC dX9_lay_34 ?_
      refine Z_i2l hC dX9_lay_35 ?_
      obtain ⟨r9, s8, h10, k⟩ := k
      refine Z_callS (As := [.long x2.toInt64, .long 0, .long ((((s1 20).2.2 30 x1.toNatClampNeg) - 1).toInt64)]) (rest := []) hC h10 csX9_78 rfl rfl (Nat.le_of_ble_eq_true rfl) dX9_lay_36 ?_
      refine Z_if_ne (tgt := 45) hC dX9_lay_39 (by decide) (fun c11 => ?_) (fun c11 => ?_)
      · have k := k.1 c11
        refine Z_aload_n hC dX9_lay_45 rfl rfl ?_
        refine Z_get (o := 20) (c := 9) (k := 31) (v := .ref (ad 20 32)) hC rfl zs_9 lkX9_44 rfl dX9_lay_46 ?_
        refine Z_bipush (v := 40) hC dX9_lay_49 rfl ?_
        refine Z_iload_n hC dX9_lay_51 rfl rfl ?_
        refine Z_imul hC dX9_lay_52 ?_
        refine Z_iload_n hC dX9_lay_53 rfl rfl ?_
        refine Z_iadd hC dX9_lay_54 ?_
        refine Z_aload_n hC dX9_lay_55 rfl rfl ?_
        refine Z_get (o := 20) (c := 9) (k := 29) (v := .ref (ad 20 30)) hC rfl zs_9 lkX9_38 rfl dX9_lay_56 ?_
        refine Z_iload_n hC dX9_lay_59 rfl rfl ?_
        obtain ⟨h12, k⟩ := k
        refine Z_iald (o := 20) (k := 29) hC (zis_of rfl rfl) h12 dX9_lay_60 ?_
        refine Z_if_ne (tgt := 69) hC dX9_lay_61 (by decide) (fun c13 => ?_) (fun c13 => ?_)
        · have k := k.1 c13
          refine Z_aload_n hC dX9_lay_69 rfl rfl ?_
          refine Z_get (o := 20) (c := 9) (k := 29) (v := .ref (ad 20 30)) hC rfl zs_9 lkX9_38 rfl dX9_lay_70 ?_
          refine Z_iload_n hC dX9_lay_73 rfl rfl ?_
          obtain ⟨h14, k⟩ := k
          refine Z_iald (o := 20) (k := 29) hC (zis_of rfl rfl) h14 dX9_lay_74 ?_
          refine Z_iconst (v := 1) hC dX9_lay_75 rfl ?_
          refine Z_icmp_ne (tgt := 84) hC dX9_lay_76 (by decide) (fun c15 => ?_) (fun c15 => ?_)
          · have k := k.1 c15
            refine Z_iload_n hC dX9_lay_84 rfl rfl ?_
            obtain ⟨h16, k⟩ := k
            refine Z_iast2 (o := 20) (k := 31) hC (zis_of rfl rfl) h16 dX9_lay_85 (fun s17 es17 => ?_)
            have k := k s17 es17
            refine Z_iconst (v := 1) hC dX9_lay_86 rfl ?_
            exact Z_iret hC dX9_lay_87 k.1 k.2
          · have k := k.2 c15
            refine Z_iload_n hC dX9_lay_79 rfl rfl ?_
            refine Z_i2s hC dX9_lay_80 ?_
            refine Z_goto (tgt := 85) hC dX9_lay_81 (by decide) ?_
            obtain ⟨h18, k⟩ := k
            refine Z_iast2 (o := 20) (k := 31) hC (zis_of rfl rfl) h18 dX9_lay_85 (fun s19 es19 => ?_)
            have k := k s19 es19
            refine Z_iconst (v := 1) hC dX9_lay_86 rfl ?_
            exact Z_iret hC dX9_lay_87 k.1 k.2
        · have k := k.2 c13
          refine Z_iload_n hC dX9_lay_64 rfl rfl ?_
          refine Z_i2b hC dX9_lay_65 ?_
          refine Z_goto (tgt := 85) hC dX9_lay_66 (by decide) ?_
          obtain ⟨h20, k⟩ := k
          refine Z_iast2 (o := 20) (k := 31) hC (zis_of rfl rfl) h20 dX9_lay_85 (fun s21 es21 => ?_)
          have k := k s21 es21
          refine Z_iconst (v := 1) hC dX9_lay_86 rfl ?_
          exact Z_iret hC dX9_lay_87 k.1 k.2
      · have k := k.2 c11
        refine Z_bipush (v := (-12)) hC dX9_lay_42 rfl ?_
        exact Z_iret hC dX9_lay_44 k.1 k.2
    · have k := k.2 c6
      refine Z_bipush (v := (-11)) hC dX9_lay_21 rfl ?_
      exact Z_iret hC dX9_lay_23 k.1 k.2
  · have k := k.2 c4
    refine Z_iconst (v := (-1)) hC dX9_lay_8 rfl ?_
    exact Z_iret hC dX9_lay_9 k.1 k.2
theorem eX9_lay {x1 : Int32} {x2 : Int32} {x3 : Int32} {X : Option Value} {Y : ZS} {s : ZS} (k : (∃ (r2 : Int32) (s1 : ZS), Ev l ad D ia d mX9_isSheet [.int x1, .int 0] s (some (.int r2)) s1 ∧ ((¬ r2 = 0 → (vp_in x1 4 ∧ ((¬ ((s1 20).2.2 29 x1.toNatClampNeg) = ((-4)) → (vp_in x1 4 ∧ (∃ (r9 : Int32) (s8 : ZS), Ev l ad D ia d mX9_in [.long x2.toInt64, .long 0, .long ((((s1 20).2.2 30 x1.toNatClampNeg) - 1).toInt64)] s1 (some (.int r9)) s8 ∧ ((¬ r9 = 0 → (vp_in x1 4 ∧ ((¬ ((s8 20).2.2 29 x1.toNatClampNeg) = 0 → (vp_in x1 4 ∧ ((¬ ((s8 20).2.2 29 x1.toNatClampNeg) = 1 → (vp_in ((40 * x1) + x2) 160 ∧ (∀ s17 : ZS, s17 = stA s8 20 31 ((40 * x1) + x2).toNatClampNeg x3 → (X = some (.int 1) ∧ Y = s17)))) ∧ (((s8 20).2.2 29 x1.toNatClampNeg) = 1 → (vp_in ((40 * x1) + x2) 160 ∧ (∀ s19 : ZS, s19 = stA s8 20 31 ((40 * x1) + x2).toNatClampNeg x3.toInt16.toInt32 → (X = some (.int 1) ∧ Y = s19))))))) ∧ (((s8 20).2.2 29 x1.toNatClampNeg) = 0 → (vp_in ((40 * x1) + x2) 160 ∧ (∀ s21 : ZS, s21 = stA s8 20 31 ((40 * x1) + x2).toNatClampNeg x3.toInt8.toInt32 → (X = some (.int 1) ∧ Y = s21))))))) ∧ (r9 = 0 → (X = some (.int ((-12))) ∧ Y = s8)))))) ∧ (((s1 20).2.2 29 x1.toNatClampNeg) = ((-4)) → (X = some (.int ((-11))) ∧ Y = s1))))) ∧ (r2 = 0 → (X = some (.int ((-1))) ∧ Y = s1))))) : Ev l ad D ia (d + 1) mX9_lay [.ref (ad 20 0), .int x1, .int x2, .int x3] s X Y :=
  Ev.start (by decide +kernel) (Nat.le_of_ble_eq_true rfl) (fun C hC => bX9_lay_0  hC k)
set_option maxRecDepth 100000 in
set_option maxHeartbeats 4000000 in
theorem bX9_read_0 {x1 : Int32} {x2 : Int32} {x3 : Int32} {x4 : Int32} {C : ZC} {X : Option Value} {Y : ZS} {s : ZS} (hC : Zok ad D ia C (d + 1) cX9_read 11 RX9 (some .int)) (k : (∃ (r2 : Int32) (s1 : ZS), Ev l ad D ia d mX9_isSheet [.int x1, .int x2] s (some (.int r2)) s1 ∧ ((r2 = 0 → (X = some (.int ((-1))) ∧ Y = s1)) ∧ (¬ r2 = 0 → (∃ (r6 : Int32) (s5 : ZS), Ev l ad D ia d mX9_in [.long x4.toInt64, .long 0, .long ((20))] s1 (some (.int r6)) s5 ∧ ((¬ r6 = 0 → Z l ad D ia C X Y 26 [(0, .ref (ad 20 0)), (1, .int x1), (2, .int x2), (3, .int x3), (4, .int x4), (5, .int 0)] [] s5) ∧ (r6 = 0 → (X = some (.int ((-1))) ∧ Y = s5)))))))) : Z l ad D ia C X Y 0 [(0, .ref (ad 20 0)), (1, .int x1), (2, .int x2), (3, .int x3), (4, .int x4)] [] s := by
  refine Z_iload_n hC dX9_read_0 rfl rfl ?_
  refine Z_iload_n hC dX9_read_1 rfl rfl ?_
  obtain ⟨r2, s1, h3, k⟩ := k
  refine Z_callS (As := [.int x1, .int x2]) (rest := []) hC h3 csX9_312 rfl rfl (Nat.le_of_ble_eq_true rfl) dX9_read_2 ?_
  refine Z_if_eq (tgt := 21) hC dX9_read_5 (by decide) (fun c4 => ?_) (fun c4 => ?_)
  · have k := k.1 c4
    refine Z_iconst (v := (-1)) hC dX9_read_21 rfl ?_
    exact Z_iret hC dX9_read_22 k.1 k.2
  · have k := k.2 c4
    refine Z_iload hC dX9_read_8 rfl ?_
    refine Z_i2l hC dX9_read_10 ?_
    refine Z_lconst (v := 0) hC dX9_read_11 rfl ?_
    refine Z_ldc2 hC clX9_301 dX9_read_12 ?_
    obtain ⟨r6, s5, h7, k⟩ := k
    refine Z_callS (As := [.long x4.toInt64, .long 0, .long ((20))]) (rest := []) hC h7 csX9_78 rfl rfl (Nat.le_of_ble_eq_true rfl) dX9_read_15 ?_
    refine Z_if_ne (tgt := 23) hC dX9_read_18 (by decide) (fun c8 => ?_) (fun c8 => ?_)
    · have k := k.1 c8
      refine Z_iconst (v := 0) hC dX9_read_23 rfl ?_
      refine Z_istore (V2 := [(5, .int 0), (0, .ref (ad 20 0)), (1, .int x1), (2, .int x2), (3, .int x3), (4, .int x4)]) hC dX9_read_24 (by decide) rfl ?_
      exact Z_pick [1, 2, 3, 4, 5, 0] rfl k
    · have k := k.2 c8
      refine Z_iconst (v := (-1)) hC dX9_read_21 rfl ?_
      exact Z_iret hC dX9_read_22 k.1 k.2
theorem eX9_read {x1 : Int32} {x2 : Int32} {x3 : Int32} {x4 : Int32} {X : Option Value} {Y : ZS} {s : ZS} (k : ∀ C : ZC, Zok ad D ia C (d + 1) cX9_read 11 RX9 (some .int) → (∃ (r2 : Int32) (s1 : ZS), Ev l ad D ia d mX9_isSheet [.int x1, .int x2] s (some (.int r2)) s1 ∧ ((r2 = 0 → (X = some (.int ((-1))) ∧ Y = s1)) ∧ (¬ r2 = 0 → (∃ (r6 : Int32) (s5 : ZS), Ev l ad D ia d mX9_in [.long x4.toInt64, .long 0, .long ((20))] s1 (some (.int r6)) s5 ∧ ((¬ r6 = 0 → Z l ad D ia C X Y 26 [(0, .ref (ad 20 0)), (1, .int x1), (2, .int x2), (3, .int x3), (4, .int x4), (5, .int 0)] [] s5) ∧ (r6 = 0 → (X = some (.int ((-1))) ∧ Y = s5)))))))) : Ev l ad D ia (d + 1) mX9_read [.ref (ad 20 0), .int x1, .int x2, .int x3, .int x4] s X Y :=
  Ev.start (by decide +kernel) (Nat.le_of_ble_eq_true rfl) (fun C hC => bX9_read_0  hC (k C hC))
set_option maxRecDepth 100000 in
set_option maxHeartbeats 4000000 in
theorem bX9_read_26 {x1 : Int32} {x2 : Int32} {x3 : Int32} {x4 : Int32} {x5 : Int32} {C : ZC} {X : Option Value} {Y : ZS} {s : ZS} (hC : Zok ad D ia C (d + 1) cX9_read 11 RX9 (some .int)) (k : ((62 ≤ x5 → Z l ad D ia C X Y 62 [(0, .ref (ad 20 0)), (1, .int x1), (2, .int x2), (3, .int x3), (4, .int x4), (5, .int 0), (6, .int 0), (7, .int 0)] [] s) ∧ (¬ 62 ≤ x5 → (vp_in x5 186 ∧ (vp_in x5 62 ∧ (∀ s4 : ZS, s4 = stA s 20 33 x5.toNatClampNeg ((s 20).2.2 0 x5.toNatClampNeg) → Z l ad D ia C X Y 26 [(0, .ref (ad 20 0)), (1, .int x1), (2, .int x2), (3, .int x3), (4, .int x4), (5, .int (x5 + 1))] [] s4)))))) : Z l ad D ia C X Y 26 [(0, .ref (ad 20 0)), (1, .int x1), (2, .int x2), (3, .int x3), (4, .int x4), (5, .int x5)] [] s := by
  refine Z_iload hC dX9_read_26 rfl ?_
  refine Z_bipush (v := 62) hC dX9_read_28 rfl ?_
  refine Z_icmp_ge (tgt := 53) hC dX9_read_30 (by decide) (fun c1 => ?_) (fun c1 => ?_)
  · have k := k.1 c1
    refine Z_iconst (v := 0) hC dX9_read_53 rfl ?_
    refine Z_istore (V2 := [(5, .int 0), (0, .ref (ad 20 0)), (1, .int x1), (2, .int x2), (3, .int x3), (4, .int x4)]) hC dX9_read_54 (by decide) rfl ?_
    refine Z_iconst (v := 0) hC dX9_read_56 rfl ?_
    refine Z_istore (V2 := [(6, .int 0), (5, .int 0), (0, .ref (ad 20 0)), (1, .int x1), (2, .int x2), (3, .int x3), (4, .int x4)]) hC dX9_read_57 (by decide) rfl ?_
    refine Z_iconst (v := 0) hC dX9_read_59 rfl ?_
    refine Z_istore (V2 := [(7, .int 0), (6, .int 0), (5, .int 0), (0, .ref (ad 20 0)), (1, .int x1), (2, .int x2), (3, .int x3), (4, .int x4)]) hC dX9_read_60 (by decide) rfl ?_
    exact Z_pick [3, 4, 5, 6, 7, 2, 1, 0] rfl k
  · have k := k.2 c1
    refine Z_aload_n hC dX9_read_33 rfl rfl ?_
    refine Z_get (o := 20) (c := 9) (k := 33) (v := .ref (ad 20 34)) hC rfl zs_9 lkX9_47 rfl dX9_read_34 ?_
    refine Z_iload hC dX9_read_37 rfl ?_
    refine Z_aload_n hC dX9_read_39 rfl rfl ?_
    refine Z_get (o := 20) (c := 9) (k := 0) (v := .ref (ad 20 1)) hC rfl zs_9 lkX9_7 rfl dX9_read_40 ?_
    refine Z_iload hC dX9_read_43 rfl ?_
    obtain ⟨h2, k⟩ := k
    refine Z_iald (o := 20) (k := 0) hC (zis_of rfl rfl) h2 dX9_read_45 ?_
    obtain ⟨h3, k⟩ := k
    refine Z_iast2 (o := 20) (k := 33) hC (zis_of rfl rfl) h3 dX9_read_46 (fun s4 es4 => ?_)
    have k := k s4 es4
    refine Z_iinc (v := x5 + 1) (V2 := [(5, .int (x5 + 1)), (0, .ref (ad 20 0)), (1, .int x1), (2, .int x2), (3, .int x3), (4, .int x4)]) hC dX9_read_47 rfl rfl (by decide) rfl ?_
    refine Z_goto (tgt := 26) hC dX9_read_50 (by decide) ?_
    exact Z_pick [1, 2, 3, 4, 5, 0] rfl k
set_option maxRecDepth 100000 in
set_option maxHeartbeats 4000000 in
theorem bX9_read_62 {x1 : Int32} {x2 : Int32} {x3 : Int32} {x4 : Int32} {x5 : Int32} {x6 : Int32} {x7 : Int32} {C : ZC} {X : Option Value} {Y : ZS} {s : ZS} (hC : Zok ad D ia C (d + 1) cX9_read 11 RX9 (some .int)) (k : ((x4 ≤ x7 → (∀ s2 : ZS, s2 = stI s 20 32 x5 → (X = some (.int x6) ∧ Y = s2))) ∧ (¬ x4 ≤ x7 → ((¬ x5 = 0 → (∀ s4 : ZS, s4 = stI s 20 32 x5 → (X = some (.int x6) ∧ Y = s4))) ∧ (x5 = 0 → Z l ad D ia C X Y 77 [(0, .ref (ad 20 0)), (1, .int x1), (2, .int x2), (3, .int x3), (4, .int x4), (5, .int x5), (6, .int x6), (7, .int x7), (8, .int 0)] [] s))))) : Z l ad D ia C X Y 62 [(0, .ref (ad 20 0)), (1, .int x1), (2, .int x2), (3, .int x3), (4, .int x4), (5, .int x5), (6, .int x6), (7, .int x7)] [] s := by
  refine Z_iload hC dX9_read_62 rfl ?_
  refine Z_iload hC dX9_read_64 rfl ?_
  refine Z_icmp_ge (tgt := 250) hC dX9_read_66 (by decide) (fun c1 => ?_) (fun c1 => ?_)
  · have k := k.1 c1
    refine Z_aload_n hC dX9_read_250 rfl rfl ?_
    refine Z_iload hC dX9_read_251 rfl ?_
    refine Z_putI (o := 20) (k := 32) hC rfl zs_9 pkX9_318 rfl rfl (hsX9_32 _ _ _) dX9_read_253 (fun s2 es2 => ?_)
    have k := k s2 es2
    refine Z_iload hC dX9_read_256 rfl ?_
    exact Z_iret hC dX9_read_258 k.1 k.2
  · have k := k.2 c1
    refine Z_iload hC dX9_read_69 rfl ?_
    refine Z_if_ne (tgt := 250) hC dX9_read_71 (by decide) (fun c3 => ?_) (fun c3 => ?_)
    · have k := k.1 c3
      refine Z_aload_n hC dX9_read_250 rfl rfl ?_
      refine Z_iload hC dX9_read_251 rfl ?_
      refine Z_putI (o := 20) (k := 32) hC rfl zs_9 pkX9_318 rfl rfl (hsX9_32 _ _ _) dX9_read_253 (fun s4 es4 => ?_)
      have k := k s4 es4
      refine Z_iload hC dX9_read_256 rfl ?_
      exact Z_iret hC dX9_read_258 k.1 k.2
    · have k := k.2 c3
      refine Z_iconst (v := 0) hC dX9_read_74 rfl ?_
      refine Z_istore (V2 := [(8, .int 0), (0, .ref (ad 20 0)), (1, .int x1), (2, .int x2), (3, .int x3), (4, .int x4), (5, .int x5), (6, .int x6), (7, .int x7)]) hC dX9_read_75 (by decide) rfl ?_
      exact Z_pick [1, 2, 3, 4, 5, 6, 7, 8, 0] rfl k
set_option maxRecDepth 100000 in
set_option maxHeartbeats 4000000 in
theorem bX9_read_77 {x1 : Int32} {x2 : Int32} {x3 : Int32} {x4 : Int32} {x5 : Int32} {x6 : Int32} {x7 : Int32} {x8 : Int32} {C : ZC} {X : Option Value} {Y : ZS} {s : ZS} (hC : Zok ad D ia C (d + 1) cX9_read 11 RX9 (some .int)) (k : ((2 ≤ x8 → Z l ad D ia C X Y 164 [(0, .ref (ad 20 0)), (1, .int x1), (2, .int x2), (3, .int x3), (4, .int x4), (5, .int x5), (6, .int x6), (7, .int x7)] [] s) ∧ (¬ 2 ≤ x8 → ((¬ x5 = 0 → Z l ad D ia C X Y 164 [(0, .ref (ad 20 0)), (1, .int x1), (2, .int x2), (3, .int x3), (4, .int x4), (5, .int x5), (6, .int x6), (7, .int x7)] [] s) ∧ (x5 = 0 → (vp_in x1 4 ∧ ((¬ ((s 20).2.2 29 x1.toNatClampNeg) = ((-4)) → (vp_in x1 4 ∧ ((((s 20).2.2 29 x1.toNatClampNeg) = x2 → (((lg_cmp ((x3.toInt64 + ((2 * x7).toInt64)) + x8.toInt64) 0) < 0 → Z l ad D ia C X Y 77 [(0, .ref (ad 20 0)), (1, .int x1), (2, .int x2), (3, .int x3), (4, .int x4), (5, .int 2), (6, .int x6), (7, .int x7), (8, .int (x8 + 1))] [] s) ∧ (¬ (lg_cmp ((x3.toInt64 + ((2 * x7).toInt64)) + x8.toInt64) 0) < 0 → (vp_in x1 4 ∧ (((lg_cmp ((x3.toInt64 + ((2 * x7).toInt64)) + x8.toInt64) (((s 20).2.2 30 x1.toNatClampNeg).toInt64)) < 0 → Z l ad D ia C X Y 77 [(0, .ref (ad 20 0)), (1, .int x1), (2, .int x2), (3, .int x3), (4, .int x4), (5, .int 0), (6, .int x6), (7, .int x7), (8, .int (x8 + 1))] [] s) ∧ (¬ (lg_cmp ((x3.toInt64 + ((2 * x7).toInt64)) + x8.toInt64) (((s 20).2.2 30 x1.toNatClampNeg).toInt64)) < 0 → Z l ad D ia C X Y 77 [(0, .ref (ad 20 0)), (1, .int x1), (2, .int x2), (3, .int x3), (4, .int x4), (5, .int 2), (6, .int x6), (7, .int x7), (8, .int (x8 + 1))] [] s)))))) ∧ (¬ ((s 20).2.2 29 x1.toNatClampNeg) = x2 → Z l ad D ia C X Y 77 [(0, .ref (ad 20 0)), (1, .int x1), (2, .int x2), (3, .int x3), (4, .int x4), (5, .int 3), (6, .int x6), (7, .int x7), (8, .int (x8 + 1))] [] s)))) ∧ (((s 20).2.2 29 x1.toNatClampNeg) = ((-4)) → Z l ad D ia C X Y 77 [(0, .ref (ad 20 0)), (1, .int x1), (2, .int x2), (3, .int x3), (4, .int x4), (5, .int 1), (6, .int x6), (7, .int x7), (8, .int (x8 + 1))] [] s)))))))) : Z l ad D ia C X Y 77 [(0, .ref (ad 20 0)), (1, .int x1), (2, .int x2), (3, .int x3), (4, .int x4), (5, .int x5), (6, .int x6), (7, .int x7), (8, .int x8)] [] s := by
  refine Z_iload hC dX9_read_77 rfl ?_
  refine Z_iconst (v := 2) hC dX9_read_79 rfl ?_
  refine Z_icmp_ge (tgt := 164) hC dX9_read_80 (by decide) (fun c1 => ?_) (fun c1 => ?_)
  · have k := k.1 c1
    exact Z_pick [0, 1, 2, 3, 4, 5, 6, 7] rfl k
  · have k := k.2 c1
    refine Z_iload hC dX9_read_83 rfl ?_
    refine Z_if_ne (tgt := 164) hC dX9_read_85 (by decide) (fun c2 => ?_) (fun c2 => ?_)
    · have k := k.1 c2
      exact Z_pick [0, 1, 2, 3, 4, 5, 6, 7] rfl k
    · have k := k.2 c2
      refine Z_iload_n hC dX9_read_88 rfl rfl ?_
      refine Z_i2l hC dX9_read_89 ?_
      refine Z_iconst (v := 2) hC dX9_read_90 rfl ?_
      refine Z_iload hC dX9_read_91 rfl ?_
      refine Z_imul hC dX9_read_93 ?_
      refine Z_i2l hC dX9_read_94 ?_
      refine Z_ladd hC dX9_read_95 ?_
      refine Z_iload hC dX9_read_96 rfl ?_
      refine Z_i2l hC dX9_read_98 ?_
      refine Z_ladd hC dX9_read_99 ?_
      refine Z_lstore (V2 := [(9, .long ((x3.toInt64 + ((2 * x7).toInt64)) + x8.toInt64)), (0, .ref (ad 20 0)), (1, .int x1), (2, .int x2), (3, .int x3), (4, .int x4), (5, .int x5), (6, .int x6), (7, .int x7), (8, .int x8)]) hC dX9_read_100 (by decide) rfl ?_
      refine Z_aload_n hC dX9_read_102 rfl rfl ?_
      refine Z_get (o := 20) (c := 9) (k := 29) (v := .ref (ad 20 30)) hC rfl zs_9 lkX9_38 rfl dX9_read_103 ?_
      refine Z_iload_n hC dX9_read_106 rfl rfl ?_
      obtain ⟨h3, k⟩ := k
      refine Z_iald (o := 20) (k := 29) hC (zis_of rfl rfl) h3 dX9_read_107 ?_
      refine Z_bipush (v := (-4)) hC dX9_read_108 rfl ?_
      refine Z_icmp_ne (tgt := 117) hC dX9_read_110 (by decide) (fun c4 => ?_) (fun c4 => ?_)
      · have k := k.1 c4
        refine Z_aload_n hC dX9_read_117 rfl rfl ?_
        refine Z_get (o := 20) (c := 9) (k := 29) (v := .ref (ad 20 30)) hC rfl zs_9 lkX9_38 rfl dX9_read_118 ?_
        refine Z_iload_n hC dX9_read_121 rfl rfl ?_
        obtain ⟨h5, k⟩ := k
        refine Z_iald (o := 20) (k := 29) hC (zis_of rfl rfl) h5 dX9_read_122 ?_
        refine Z_iload_n hC dX9_read_123 rfl rfl ?_
        refine Z_icmp_eq (tgt := 131) hC dX9_read_124 (by decide) (fun c6 => ?_) (fun c6 => ?_)
        · have k := k.1 c6
          refine Z_lload hC dX9_read_131 rfl ?_
          refine Z_lconst (v := 0) hC dX9_read_133 rfl ?_
          refine Z_lcmp hC dX9_read_134 ?_
          refine Z_if_lt (tgt := 151) hC dX9_read_135 (by decide) (fun c7 => ?_) (fun c7 => ?_)
          · have k := k.1 c7
            refine Z_iconst (v := 2) hC dX9_read_151 rfl ?_
            refine Z_goto (tgt := 156) hC dX9_read_152 (by decide) ?_
            refine Z_istore (V2 := [(5, .int 2), (9, .long ((x3.toInt64 + ((2 * x7).toInt64)) + x8.toInt64)), (0, .ref (ad 20 0)), (1, .int x1), (2, .int x2), (3, .int x3), (4, .int x4), (6, .int x6), (7, .int x7), (8, .int x8)]) hC dX9_read_156 (by decide) rfl ?_
            refine Z_iinc (v := x8 + 1) (V2 := [(8, .int (x8 + 1)), (5, .int 2), (9, .long ((x3.toInt64 + ((2 * x7).toInt64)) + x8.toInt64)), (0, .ref (ad 20 0)), (1, .int x1), (2, .int x2), (3, .int x3), (4, .int x4), (6, .int x6), (7, .int x7)]) hC dX9_read_158 rfl rfl (by decide) rfl ?_
            refine Z_goto (tgt := 77) hC dX9_read_161 (by decide) ?_
            exact Z_pick [3, 4, 5, 6, 7, 1, 8, 9, 0] rfl k
          · have k := k.2 c7
            refine Z_lload hC dX9_read_138 rfl ?_
            refine Z_aload_n hC dX9_read_140 rfl rfl ?_
            refine Z_get (o := 20) (c := 9) (k := 30) (v := .ref (ad 20 31)) hC rfl zs_9 lkX9_41 rfl dX9_read_141 ?_
            refine Z_iload_n hC dX9_read_144 rfl rfl ?_
            obtain ⟨h8, k⟩ := k
            refine Z_iald (o := 20) (k := 30) hC (zis_of rfl rfl) h8 dX9_read_145 ?_
            refine Z_i2l hC dX9_read_146 ?_
            refine Z_lcmp hC dX9_read_147 ?_
            refine Z_if_lt (tgt := 155) hC dX9_read_148 (by decide) (fun c9 => ?_) (fun c9 => ?_)
            · have k := k.1 c9
              refine Z_iconst (v := 0) hC dX9_read_155 rfl ?_
              refine Z_istore (V2 := [(5, .int 0), (9, .long ((x3.toInt64 + ((2 * x7).toInt64)) + x8.toInt64)), (0, .ref (ad 20 0)), (1, .int x1), (2, .int x2), (3, .int x3), (4, .int x4), (6, .int x6), (7, .int x7), (8, .int x8)]) hC dX9_read_156 (by decide) rfl ?_
              refine Z_iinc (v := x8 + 1) (V2 := [(8, .int (x8 + 1)), (5, .int 0), (9, .long ((x3.toInt64 + ((2 * x7).toInt64)) + x8.toInt64)), (0, .ref (ad 20 0)), (1, .int x1), (2, .int x2), (3, .int x3), (4, .int x4), (6, .int x6), (7, .int x7)]) hC dX9_read_158 rfl rfl (by decide) rfl ?_
              refine Z_goto (tgt := 77) hC dX9_read_161 (by decide) ?_
              exact Z_pick [3, 4, 5, 6, 7, 1, 8, 9, 0] rfl k
            · have k := k.2 c9
              refine Z_iconst (v := 2) hC dX9_read_151 rfl ?_
              refine Z_goto (tgt := 156) hC dX9_read_152 (by decide) ?_
              refine Z_istore (V2 := [(5, .int 2), (9, .long ((x3.toInt64 + ((2 * x7).toInt64)) + x8.toInt64)), (0, .ref (ad 20 0)), (1, .int x1), (2, .int x2), (3, .int x3), (4, .int x4), (6, .int x6), (7, .int x7), (8, .int x8)]) hC dX9_read_156 (by decide) rfl ?_
              refine Z_iinc (v := x8 + 1) (V2 := [(8, .int (x8 + 1)), (5, .int 2), (9, .long ((x3.toInt64 + ((2 * x7).toInt64)) + x8.toInt64)), (0, .ref (ad 20 0)), (1, .int x1), (2, .int x2), (3, .int x3), (4, .int x4), (6, .int x6), (7, .int x7)]) hC dX9_read_158 rfl rfl (by decide) rfl ?_
              refine Z_goto (tgt := 77) hC dX9_read_161 (by decide) ?_
              exact Z_pick [3, 4, 5, 6, 7, 1, 8, 9, 0] rfl k
        · have k := k.2 c6
          refine Z_iconst (v := 3) hC dX9_read_127 rfl ?_
          refine Z_goto (tgt := 156) hC dX9_read_128 (by decide) ?_
          refine Z_istore (V2 := [(5, .int 3), (9, .long ((x3.toInt64 + ((2 * x7).toInt64)) + x8.toInt64)), (0, .ref (ad 20 0)), (1, .int x1), (2, .int x2), (3, .int x3), (4, .int x4), (6, .int x6), (7, .int x7), (8, .int x8)]) hC dX9_read_156 (by decide) rfl ?_
          refine Z_iinc (v := x8 + 1) (V2 := [(8, .int (x8 + 1)), (5, .int 3), (9, .long ((x3.toInt64 + ((2 * x7).toInt64)) + x8.toInt64)), (0, .ref (ad 20 0)), (1, .int x1), (2, .int x2), (3, .int x3), (4, .int x4), (6, .int x6), (7, .int x7)]) hC dX9_read_158 rfl rfl (by decide) rfl ?_
          refine Z_goto (tgt := 77) hC dX9_read_161 (by decide) ?_
          exact Z_pick [3, 4, 5, 6, 7, 1, 8, 9, 0] rfl k
      · have k := k.2 c4
        refine Z_iconst (v := 1) hC dX9_read_113 rfl ?_
        refine Z_goto (tgt := 156) hC dX9_read_114 (by decide) ?_
        refine Z_istore (V2 := [(5, .int 1), (9, .long ((x3.toInt64 + ((2 * x7).toInt64)) + x8.toInt64)), (0, .ref (ad 20 0)), (1, .int x1), (2, .int x2), (3, .int x3), (4, .int x4), (6, .int x6), (7, .int x7), (8, .int x8)]) hC dX9_read_156 (by decide) rfl ?_
        refine Z_iinc (v := x8 + 1) (V2 := [(8, .int (x8 + 1)), (5, .int 1), (9, .long ((x3.toInt64 + ((2 * x7).toInt64)) + x8.toInt64)), (0, .ref (ad 20 0)), (1, .int x1), (2, .int x2), (3, .int x3), (4, .int x4), (6, .int x6), (7, .int x7)]) hC dX9_read_158 rfl rfl (by decide) rfl ?_
        refine Z_goto (tgt := 77) hC dX9_read_161 (by decide) ?_
        exact Z_pick [3, 4, 5, 6, 7, 1, 8, 9, 0] rfl k
set_option maxRecDepth 100000 in
set_option maxHeartbeats 4000000 in
theorem bX9_read_164 {x1 : Int32} {x2 : Int32} {x3 : Int32} {x4 : Int32} {x5 : Int32} {x6 : Int32} {x7 : Int32} {C : ZC} {X : Option Value} {Y : ZS} {s : ZS} (hC : Zok ad D ia C (d + 1) cX9_read 11 RX9 (some .int)) (k : ((¬ x5 = 0 → Z l ad D ia C X Y 62 [(0, .ref (ad 20 0)), (1, .int x1), (2, .int x2), (3, .int x3), (4, .int x4), (5, .int x5), (6, .int x6), (7, .int (x7 + 1))] [] s) ∧ (x5 = 0 → (vp_in (((40 * x1) + x3) + (2 * x7)) 160 ∧ (vp_in ((((40 * x1) + x3) + (2 * x7)) + 1) 160 ∧ (∃ (r5 : Int32) (s4 : ZS), Ev l ad D ia d mX9_fetch [.ref (ad 20 0), .int ((s 20).2.2 31 (((40 * x1) + x3) + (2 * x7)).toNatClampNeg), .int ((s 20).2.2 31 ((((40 * x1) + x3) + (2 * x7)) + 1).toNatClampNeg)] s (some (.int r5)) s4 ∧ ((0 ≤ r5 → Z l ad D ia C X Y 62 [(0, .ref (ad 20 0)), (1, .int x1), (2, .int x2), (3, .int x3), (4, .int x4), (5, .int x5), (6, .int (x6 + 1)), (7, .int (x7 + 1))] [] s4) ∧ (¬ 0 ≤ r5 → Z l ad D ia C X Y 208 [(0, .ref (ad 20 0)), (7, .int x7), (9, .int 0)] [] s4)))))))) : Z l ad D ia C X Y 164 [(0, .ref (ad 20 0)), (1, .int x1), (2, .int x2), (3, .int x3), (4, .int x4), (5, .int x5), (6, .int x6), (7, .int x7)] [] s := by
  refine Z_iload hC dX9_read_164 rfl ?_
  refine Z_if_ne (tgt := 244) hC dX9_read_166 (by decide) (fun c1 => ?_) (fun c1 => ?_)
  · have k := k.1 c1
    refine Z_iinc (v := x7 + 1) (V2 := [(7, .int (x7 + 1)), (0, .ref (ad 20 0)), (1, .int x1), (2, .int x2), (3, .int x3), (4, .int x4), (5, .int x5), (6, .int x6)]) hC dX9_read_244 rfl rfl (by decide) rfl ?_
    refine Z_goto (tgt := 62) hC dX9_read_247 (by decide) ?_
    exact Z_pick [1, 2, 3, 4, 5, 6, 7, 0] rfl k
  · have k := k.2 c1
    refine Z_bipush (v := 40) hC dX9_read_169 rfl ?_
    refine Z_iload_n hC dX9_read_171 rfl rfl ?_
    refine Z_imul hC dX9_read_172 ?_
    refine Z_iload_n hC dX9_read_173 rfl rfl ?_
    refine Z_iadd hC dX9_read_174 ?_
    refine Z_iconst (v := 2) hC dX9_read_175 rfl ?_
    refine Z_iload hC dX9_read_176 rfl ?_
    refine Z_imul hC dX9_read_178 ?_
    refine Z_iadd hC dX9_read_179 ?_
    refine Z_istore (V2 := [(8, .int (((40 * x1) + x3) + (2 * x7))), (0, .ref (ad 20 0)), (1, .int x1), (2, .int x2), (3, .int x3), (4, .int x4), (5, .int x5), (6, .int x6), (7, .int x7)]) hC dX9_read_180 (by decide) rfl ?_
    refine Z_aload_n hC dX9_read_182 rfl rfl ?_
    refine Z_aload_n hC dX9_read_183 rfl rfl ?_
    refine Z_get (o := 20) (c := 9) (k := 31) (v := .ref (ad 20 32)) hC rfl zs_9 lkX9_44 rfl dX9_read_184 ?_
    refine Z_iload hC dX9_read_187 rfl ?_
    obtain ⟨h2, k⟩ := k
    refine Z_iald (o := 20) (k := 31) hC (zis_of rfl rfl) h2 dX9_read_189 ?_
    refine Z_aload_n hC dX9_read_190 rfl rfl ?_
    refine Z_get (o := 20) (c := 9) (k := 31) (v := .ref (ad 20 32)) hC rfl zs_9 lkX9_44 rfl dX9_read_191 ?_
    refine Z_iload hC dX9_read_194 rfl ?_
    refine Z_iconst (v := 1) hC dX9_read_196 rfl ?_
    refine Z_iadd hC dX9_read_197 ?_
    obtain ⟨h3, k⟩ := k
    refine Z_iald (o := 20) (k := 31) hC (zis_of rfl rfl) h3 dX9_read_198 ?_
    obtain ⟨r5, s4, h6, k⟩ := k
    refine Z_callV (As := [.int ((s 20).2.2 31 (((40 * x1) + x3) + (2 * x7)).toNatClampNeg), .int ((s 20).2.2 31 ((((40 * x1) + x3) + (2 * x7)) + 1).toNatClampNeg)]) (rest := []) hC h6 cvX9_315 ⟨9, rfl, zs_9, _, rfl, rfl⟩ rfl rfl (Nat.le_of_ble_eq_true rfl) dX9_read_199 ?_
    refine Z_if_ge (tgt := 241) hC dX9_read_202 (by decide) (fun c7 => ?_) (fun c7 => ?_)
    · have k := k.1 c7
      refine Z_iinc (v := x6 + 1) (V2 := [(6, .int (x6 + 1)), (8, .int (((40 * x1) + x3) + (2 * x7))), (0, .ref (ad 20 0)), (1, .int x1), (2, .int x2), (3, .int x3), (4, .int x4), (5, .int x5), (7, .int x7)]) hC dX9_read_241 rfl rfl (by decide) rfl ?_
      refine Z_iinc (v := x7 + 1) (V2 := [(7, .int (x7 + 1)), (6, .int (x6 + 1)), (8, .int (((40 * x1) + x3) + (2 * x7))), (0, .ref (ad 20 0)), (1, .int x1), (2, .int x2), (3, .int x3), (4, .int x4), (5, .int x5)]) hC dX9_read_244 rfl rfl (by decide) rfl ?_
      refine Z_goto (tgt := 62) hC dX9_read_247 (by decide) ?_
      exact Z_pick [3, 4, 5, 6, 7, 8, 1, 0] rfl k
    · have k := k.2 c7
      refine Z_iconst (v := 0) hC dX9_read_205 rfl ?_
      refine Z_istore (V2 := [(9, .int 0), (8, .int (((40 * x1) + x3) + (2 * x7))), (0, .ref (ad 20 0)), (1, .int x1), (2, .int x2), (3, .int x3), (4, .int x4), (5, .int x5), (6, .int x6), (7, .int x7)]) hC dX9_read_206 (by decide) rfl ?_
      exact Z_pick [2, 9, 0] rfl k
set_option maxRecDepth 100000 in
set_option maxHeartbeats 4000000 in
theorem bX9_read_208 {x7 : Int32} {x9 : Int32} {C : ZC} {X : Option Value} {Y : ZS} {s : ZS} (hC : Zok ad D ia C (d + 1) cX9_read 11 RX9 (some .int)) (k : ((62 ≤ x9 → (X = some (.int (((-20)) - x7)) ∧ Y = s)) ∧ (¬ 62 ≤ x9 → (vp_in x9 62 ∧ (vp_in x9 186 ∧ (∀ s4 : ZS, s4 = stA s 20 0 x9.toNatClampNeg ((s 20).2.2 33 x9.toNatClampNeg) → Z l ad D ia C X Y 208 [(0, .ref (ad 20 0)), (7, .int x7), (9, .int (x9 + 1))] [] s4)))))) : Z l ad D ia C X Y 208 [(0, .ref (ad 20 0)), (7, .int x7), (9, .int x9)] [] s := by
  refine Z_iload hC dX9_read_208 rfl ?_
  refine Z_bipush (v := 62) hC dX9_read_210 rfl ?_
  refine Z_icmp_ge (tgt := 235) hC dX9_read_212 (by decide) (fun c1 => ?_) (fun c1 => ?_)
  · have k := k.1 c1
    refine Z_bipush (v := (-20)) hC dX9_read_235 rfl ?_
    refine Z_iload hC dX9_read_237 rfl ?_
    refine Z_isub hC dX9_read_239 ?_
    exact Z_iret hC dX9_read_240 k.1 k.2
  · have k := k.2 c1
    refine Z_aload_n hC dX9_read_215 rfl rfl ?_
    refine Z_get (o := 20) (c := 9) (k := 0) (v := .ref (ad 20 1)) hC rfl zs_9 lkX9_7 rfl dX9_read_216 ?_
    refine Z_iload hC dX9_read_219 rfl ?_
    refine Z_aload_n hC dX9_read_221 rfl rfl ?_
    refine Z_get (o := 20) (c := 9) (k := 33) (v := .ref (ad 20 34)) hC rfl zs_9 lkX9_47 rfl dX9_read_222 ?_
    refine Z_iload hC dX9_read_225 rfl ?_
    obtain ⟨h2, k⟩ := k
    refine Z_iald (o := 20) (k := 33) hC (zis_of rfl rfl) h2 dX9_read_227 ?_
    obtain ⟨h3, k⟩ := k
    refine Z_iast2 (o := 20) (k := 0) hC (zis_of rfl rfl) h3 dX9_read_228 (fun s4 es4 => ?_)
    have k := k s4 es4
    refine Z_iinc (v := x9 + 1) (V2 := [(9, .int (x9 + 1)), (0, .ref (ad 20 0)), (7, .int x7)]) hC dX9_read_229 rfl rfl (by decide) rfl ?_
    refine Z_goto (tgt := 208) hC dX9_read_232 (by decide) ?_
    exact Z_pick [1, 2, 0] rfl k
set_option maxRecDepth 100000 in
set_option maxHeartbeats 4000000 in
theorem bX9_torn_0 {C : ZC} {X : Option Value} {Y : ZS} {s : ZS} (hC : Zok ad D ia C d cX9_torn 1 RX9 (some .int)) (k : (X = some (.int ((s 20).1 32)) ∧ Y = s)) : Z l ad D ia C X Y 0 [(0, .ref (ad 20 0))] [] s := by
  refine Z_aload_n hC dX9_torn_0 rfl rfl ?_
  refine Z_get (o := 20) (c := 9) (k := 32) (v := .int ((s 20).1 32)) hC rfl zs_9 lkX9_318 rfl dX9_torn_1 ?_
  exact Z_iret hC dX9_torn_4 k.1 k.2
theorem eX9_torn {X : Option Value} {Y : ZS} {s : ZS} (k : (X = some (.int ((s 20).1 32)) ∧ Y = s)) : Ev l ad D ia d mX9_torn [.ref (ad 20 0)] s X Y :=
  Ev.start (by decide +kernel) (Nat.le_of_ble_eq_true rfl) (fun C hC => bX9_torn_0  hC k)
set_option maxRecDepth 100000 in
set_option maxHeartbeats 4000000 in
theorem bX9_count_0 {x1 : Int32} {C : ZC} {X : Option Value} {Y : ZS} {s : ZS} (hC : Zok ad D ia C (d + 1) cX9_count 5 RX9 (some .int)) (k : (∃ s1 : ZS, Ev l ad D ia d mX9_starts [.ref (ad 20 0)] s none s1 ∧ Z l ad D ia C X Y 11 [(0, .ref (ad 20 0)), (1, .int x1), (2, .int 0), (3, .int 0), (4, .int 0)] [] s1)) : Z l ad D ia C X Y 0 [(0, .ref (ad 20 0)), (1, .int x1)] [] s := by
  refine Z_aload_n hC dX9_count_0 rfl rfl ?_
  obtain ⟨s1, h2, k⟩ := k
  refine Z_callV (As := []) (rest := []) hC h2 cvX9_204 ⟨9, rfl, zs_9, _, rfl, rfl⟩ rfl rfl (Nat.le_of_ble_eq_true rfl) dX9_count_1 ?_
  refine Z_iconst (v := 0) hC dX9_count_4 rfl ?_
  refine Z_istore_n (V2 := [(2, .int 0), (0, .ref (ad 20 0)), (1, .int x1)]) hC dX9_count_5 rfl (by decide) rfl ?_
  refine Z_iconst (v := 0) hC dX9_count_6 rfl ?_
  refine Z_istore_n (V2 := [(3, .int 0), (2, .int 0), (0, .ref (ad 20 0)), (1, .int x1)]) hC dX9_count_7 rfl (by decide) rfl ?_
  refine Z_iconst (v := 0) hC dX9_count_8 rfl ?_
  refine Z_istore (V2 := [(4, .int 0), (3, .int 0), (2, .int 0), (0, .ref (ad 20 0)), (1, .int x1)]) hC dX9_count_9 (by decide) rfl ?_
  exact Z_pick [3, 4, 2, 1, 0] rfl k
theorem eX9_count {x1 : Int32} {X : Option Value} {Y : ZS} {s : ZS} (k : ∀ C : ZC, Zok ad D ia C (d + 1) cX9_count 5 RX9 (some .int) → (∃ s1 : ZS, Ev l ad D ia d mX9_starts [.ref (ad 20 0)] s none s1 ∧ Z l ad D ia C X Y 11 [(0, .ref (ad 20 0)), (1, .int x1), (2, .int 0), (3, .int 0), (4, .int 0)] [] s1)) : Ev l ad D ia (d + 1) mX9_count [.ref (ad 20 0), .int x1] s X Y :=
  Ev.start (by decide +kernel) (Nat.le_of_ble_eq_true rfl) (fun C hC => bX9_count_0  hC (k C hC))
set_option maxRecDepth 100000 in
set_option maxHeartbeats 4000000 in
theorem bX9_count_11 {x1 : Int32} {x2 : Int32} {x3 : Int32} {x4 : Int32} {C : ZC} {X : Option Value} {Y : ZS} {s : ZS} (hC : Zok ad D ia C (d + 1) cX9_count 5 RX9 (some .int)) (k : ((((s 20).1 3) ≤ x4 → Z l ad D ia C X Y 39 [(0, .ref (ad 20 0)), (1, .int x1), (2, .int x2), (3, .int x3), (4, .int 0)] [] s) ∧ (¬ ((s 20).1 3) ≤ x4 → (∃ (r3 : Int32) (s2 : ZS), Ev l ad D ia d mX9_of [.ref (ad 20 0), .int x4, .int 1] s (some (.int r3)) s2 ∧ Z l ad D ia C X Y 11 [(0, .ref (ad 20 0)), (1, .int x1), (2, .int (x2 + r3)), (3, .int x3), (4, .int (x4 + 1))] [] s2)))) : Z l ad D ia C X Y 11 [(0, .ref (ad 20 0)), (1, .int x1), (2, .int x2), (3, .int x3), (4, .int x4)] [] s := by
  refine Z_iload hC dX9_count_11 rfl ?_
  refine Z_aload_n hC dX9_count_13 rfl rfl ?_
  refine Z_get (o := 20) (c := 9) (k := 3) (v := .int ((s 20).1 3)) hC rfl zs_9 lkX9_70 rfl dX9_count_14 ?_
  refine Z_icmp_ge (tgt := 36) hC dX9_count_17 (by decide) (fun c1 => ?_) (fun c1 => ?_)
  · have k := k.1 c1
    refine Z_iconst (v := 0) hC dX9_count_36 rfl ?_
    refine Z_istore (V2 := [(4, .int 0), (0, .ref (ad 20 0)), (1, .int x1), (2, .int x2), (3, .int x3)]) hC dX9_count_37 (by decide) rfl ?_
    exact Z_pick [1, 2, 3, 4, 0] rfl k
  · have k := k.2 c1
    refine Z_iload_n hC dX9_count_20 rfl rfl ?_
    refine Z_aload_n hC dX9_count_21 rfl rfl ?_
    refine Z_iload hC dX9_count_22 rfl ?_
    refine Z_iconst (v := 1) hC dX9_count_24 rfl ?_
    obtain ⟨r3, s2, h4, k⟩ := k
    refine Z_callV (As := [.int x4, .int 1]) (rest := [.int x2]) hC h4 cvX9_156 ⟨9, rfl, zs_9, _, rfl, rfl⟩ rfl rfl (Nat.le_of_ble_eq_true rfl) dX9_count_25 ?_
    refine Z_iadd hC dX9_count_28 ?_
    refine Z_istore_n (V2 := [(2, .int (x2 + r3)), (0, .ref (ad 20 0)), (1, .int x1), (3, .int x3), (4, .int x4)]) hC dX9_count_29 rfl (by decide) rfl ?_
    refine Z_iinc (v := x4 + 1) (V2 := [(4, .int (x4 + 1)), (2, .int (x2 + r3)), (0, .ref (ad 20 0)), (1, .int x1), (3, .int x3)]) hC dX9_count_30 rfl rfl (by decide) rfl ?_
    refine Z_goto (tgt := 11) hC dX9_count_33 (by decide) ?_
    exact Z_pick [2, 3, 1, 4, 0] rfl k
set_option maxRecDepth 100000 in
set_option maxHeartbeats 4000000 in
theorem bX9_count_39 {x1 : Int32} {x2 : Int32} {x3 : Int32} {x4 : Int32} {C : ZC} {X : Option Value} {Y : ZS} {s : ZS} (hC : Zok ad D ia C (d + 1) cX9_count 5 RX9 (some .int)) (k : ((((s 20).1 4) ≤ x4 → ((x1 = 0 → (vp_in 43 186 ∧ (X = some (.int ((s 20).2.2 0 (43 : Int32).toNatClampNeg)) ∧ Y = s))) ∧ (x1 = 1 → (vp_in 0 2 ∧ (∃ (r7 : Int32) (s6 : ZS), Ev l ad D ia d mX9_flag [.int ((s 20).2.2 2 (0 : Int32).toNatClampNeg)] s (some (.int r7)) s6 ∧ (vp_in 1 2 ∧ (∃ (r11 : Int32) (s10 : ZS), Ev l ad D ia d mX9_flag [.int ((s6 20).2.2 2 (1 : Int32).toNatClampNeg)] s6 (some (.int r11)) s10 ∧ (X = some (.int (r7 + r11)) ∧ Y = s10)))))) ∧ (x1 = 2 → (X = some (.int ((s 20).1 11)) ∧ Y = s)) ∧ (x1 = 3 → (vp_in 0 4 ∧ ((¬ ((s 20).2.2 29 (0 : Int32).toNatClampNeg) = ((-4)) → (vp_in 0 4 ∧ (X = some (.int ((s 20).2.2 30 (0 : Int32).toNatClampNeg)) ∧ Y = s))) ∧ (((s 20).2.2 29 (0 : Int32).toNatClampNeg) = ((-4)) → (X = some (.int ((-4))) ∧ Y = s))))) ∧ (x1 = 4 → (X = some (.int x2) ∧ Y = s)) ∧ (x1 = 5 → (X = some (.int x3) ∧ Y = s)) ∧ ((¬ x1 = 0 ∧ ¬ x1 = 1 ∧ ¬ x1 = 2 ∧ ¬ x1 = 3 ∧ ¬ x1 = 4 ∧ ¬ x1 = 5) → (X = some (.int ((-1))) ∧ Y = s)))) ∧ (¬ ((s 20).1 4) ≤ x4 → (∃ (r22 : Int32) (s21 : ZS), Ev l ad D ia d mX9_ofReader [.ref (ad 20 0), .int x4, .int 2] s (some (.int r22)) s21 ∧ Z l ad D ia C X Y 39 [(0, .ref (ad 20 0)), (1, .int x1), (2, .int x2), (3, .int (x3 + r22)), (4, .int (x4 + 1))] [] s21)))) : Z l ad D ia C X Y 39 [(0, .ref (ad 20 0)), (1, .int x1), (2, .int x2), (3, .int x3), (4, .int x4)] [] s := by
  refine Z_iload hC dX9_count_39 rfl ?_
  refine Z_aload_n hC dX9_count_41 rfl rfl ?_
  refine Z_get (o := 20) (c := 9) (k := 4) (v := .int ((s 20).1 4)) hC rfl zs_9 lkX9_73 rfl dX9_count_42 ?_
  refine Z_icmp_ge (tgt := 64) hC dX9_count_45 (by decide) (fun c1 => ?_) (fun c1 => ?_)
  · have k := k.1 c1
    refine Z_iload_n hC dX9_count_64 rfl rfl ?_
    by_cases c2 : x1 = 0
    · have c2x : (x1).toInt = 0 := by rw [c2]; rfl
      have k := k.1 c2
      refine Z_tabIn (tgt := 104) hC dX9_count_65 (by omega) (by omega) (by rw [c2x]; rfl) (by decide) ?_
      refine Z_aload_n hC dX9_count_104 rfl rfl ?_
      refine Z_get (o := 20) (c := 9) (k := 0) (v := .ref (ad 20 1)) hC rfl zs_9 lkX9_7 rfl dX9_count_105 ?_
      refine Z_bipush (v := 43) hC dX9_count_108 rfl ?_
      obtain ⟨h3, k⟩ := k
      refine Z_iald (o := 20) (k := 0) hC (zis_of rfl rfl) h3 dX9_count_110 ?_
      exact Z_iret hC dX9_count_111 k.1 k.2
    by_cases c4 : x1 = 1
    · have c4x : (x1).toInt = 1 := by rw [c4]; rfl
      have k := k.2.1 c4
      refine Z_tabIn (tgt := 112) hC dX9_count_65 (by omega) (by omega) (by rw [c4x]; rfl) (by decide) ?_
      refine Z_aload_n hC dX9_count_112 rfl rfl ?_
      refine Z_get (o := 20) (c := 9) (k := 2) (v := .ref (ad 20 3)) hC rfl zs_9 lkX9_16 rfl dX9_count_113 ?_
      refine Z_iconst (v := 0) hC dX9_count_116 rfl ?_
      obtain ⟨h5, k⟩ := k
      refine Z_zald (o := 20) (k := 2) hC (zis_of rfl rfl) h5 dX9_count_117 ?_
      obtain ⟨r7, s6, h8, k⟩ := k
      refine Z_callS (As := [.int ((s 20).2.2 2 (0 : Int32).toNatClampNeg)]) (rest := []) hC h8 csX9_200 rfl rfl (Nat.le_of_ble_eq_true rfl) dX9_count_118 ?_
      refine Z_aload_n hC dX9_count_121 rfl rfl ?_
      refine Z_get (o := 20) (c := 9) (k := 2) (v := .ref (ad 20 3)) hC rfl zs_9 lkX9_16 rfl dX9_count_122 ?_
      refine Z_iconst (v := 1) hC dX9_count_125 rfl ?_
      obtain ⟨h9, k⟩ := k
      refine Z_zald (o := 20) (k := 2) hC (zis_of rfl rfl) h9 dX9_count_126 ?_
      obtain ⟨r11, s10, h12, k⟩ := k
      refine Z_callS (As := [.int ((s6 20).2.2 2 (1 : Int32).toNatClampNeg)]) (rest := [.int r7]) hC h12 csX9_200 rfl rfl (Nat.le_of_ble_eq_true rfl) dX9_count_127 ?_
      refine Z_iadd hC dX9_count_130 ?_
      exact Z_iret hC dX9_count_131 k.1 k.2
    by_cases c13 : x1 = 2
    · have c13x : (x1).toInt = 2 := by rw [c13]; rfl
      have k := k.2.2.1 c13
      refine Z_tabIn (tgt := 132) hC dX9_count_65 (by omega) (by omega) (by rw [c13x]; rfl) (by decide) ?_
      refine Z_aload_n hC dX9_count_132 rfl rfl ?_
      refine Z_get (o := 20) (c := 9) (k := 11) (v := .int ((s 20).1 11)) hC rfl zs_9 lkX9_82 rfl dX9_count_133 ?_
      exact Z_iret hC dX9_count_136 k.1 k.2
    by_cases c14 : x1 = 3
    · have c14x : (x1).toInt = 3 := by rw [c14]; rfl
      have k := k.2.2.2.1 c14
      refine Z_tabIn (tgt := 137) hC dX9_count_65 (by omega) (by omega) (by rw [c14x]; rfl) (by decide) ?_
      refine Z_aload_n hC dX9_count_137 rfl rfl ?_
      refine Z_get (o := 20) (c := 9) (k := 29) (v := .ref (ad 20 30)) hC rfl zs_9 lkX9_38 rfl dX9_count_138 ?_
      refine Z_iconst (v := 0) hC dX9_count_141 rfl ?_
      obtain ⟨h15, k⟩ := k
      refine Z_iald (o := 20) (k := 29) hC (zis_of rfl rfl) h15 dX9_count_142 ?_
      refine Z_bipush (v := (-4)) hC dX9_count_143 rfl ?_
      refine Z_icmp_ne (tgt := 153) hC dX9_count_145 (by decide) (fun c16 => ?_) (fun c16 => ?_)
      · have k := k.1 c16
        refine Z_aload_n hC dX9_count_153 rfl rfl ?_
        refine Z_get (o := 20) (c := 9) (k := 30) (v := .ref (ad 20 31)) hC rfl zs_9 lkX9_41 rfl dX9_count_154 ?_
        refine Z_iconst (v := 0) hC dX9_count_157 rfl ?_
        obtain ⟨h17, k⟩ := k
        refine Z_iald (o := 20) (k := 30) hC (zis_of rfl rfl) h17 dX9_count_158 ?_
        exact Z_iret hC dX9_count_159 k.1 k.2
      · have k := k.2 c16
        refine Z_bipush (v := (-4)) hC dX9_count_148 rfl ?_
        refine Z_goto (tgt := 159) hC dX9_count_150 (by decide) ?_
        exact Z_iret hC dX9_count_159 k.1 k.2
    by_cases c18 : x1 = 4
    · have c18x : (x1).toInt = 4 := by rw [c18]; rfl
      have k := k.2.2.2.2.1 c18
      refine Z_tabIn (tgt := 160) hC dX9_count_65 (by omega) (by omega) (by rw [c18x]; rfl) (by decide) ?_
      refine Z_iload_n hC dX9_count_160 rfl rfl ?_
      exact Z_iret hC dX9_count_161 k.1 k.2
    by_cases c19 : x1 = 5
    · have c19x : (x1).toInt = 5 := by rw [c19]; rfl
      have k := k.2.2.2.2.2.1 c19
      refine Z_tabIn (tgt := 162) hC dX9_count_65 (by omega) (by omega) (by rw [c19x]; rfl) (by decide) ?_
      refine Z_iload_n hC dX9_count_162 rfl rfl ?_
      exact Z_iret hC dX9_count_163 k.1 k.2
    have k := k.2.2.2.2.2.2 ⟨c2, c4, c13, c14, c18, c19⟩
    have z20 : (x1).toInt < 0 ∨ 5 < (x1).toInt := by
      apply tab_out
      intro z h1 h2
      rcases (show z = 0 ∨ z = 1 ∨ z = 2 ∨ z = 3 ∨ z = 4 ∨ z = 5 by omega) with rfl | rfl | rfl | rfl | rfl | rfl
      · exact fun e => c2 (Int32.toInt_inj.mp (show (x1).toInt = ((0 : Int32)).toInt from e))
      · exact fun e => c4 (Int32.toInt_inj.mp (show (x1).toInt = ((1 : Int32)).toInt from e))
      · exact fun e => c13 (Int32.toInt_inj.mp (show (x1).toInt = ((2 : Int32)).toInt from e))
      · exact fun e => c14 (Int32.toInt_inj.mp (show (x1).toInt = ((3 : Int32)).toInt from e))
      · exact fun e => c18 (Int32.toInt_inj.mp (show (x1).toInt = ((4 : Int32)).toInt from e))
      · exact fun e => c19 (Int32.toInt_inj.mp (show (x1).toInt = ((5 : Int32)).toInt from e))
    refine Z_tabOut (tgt := 164) hC dX9_count_65 z20 (by decide) ?_
    refine Z_iconst (v := (-1)) hC dX9_count_164 rfl ?_
    exact Z_iret hC dX9_count_165 k.1 k.2
  · have k := k.2 c1
    refine Z_iload_n hC dX9_count_48 rfl rfl ?_
    refine Z_aload_n hC dX9_count_49 rfl rfl ?_
    refine Z_iload hC dX9_count_50 rfl ?_
    refine Z_iconst (v := 2) hC dX9_count_52 rfl ?_
    obtain ⟨r22, s21, h23, k⟩ := k
    refine Z_callV (As := [.int x4, .int 2]) (rest := [.int x3]) hC h23 cvX9_153 ⟨9, rfl, zs_9, _, rfl, rfl⟩ rfl rfl (Nat.le_of_ble_eq_true rfl) dX9_count_53 ?_
    refine Z_iadd hC dX9_count_56 ?_
    refine Z_istore_n (V2 := [(3, .int (x3 + r22)), (0, .ref (ad 20 0)), (1, .int x1), (2, .int x2), (4, .int x4)]) hC dX9_count_57 rfl (by decide) rfl ?_
    refine Z_iinc (v := x4 + 1) (V2 := [(4, .int (x4 + 1)), (3, .int (x3 + r22)), (0, .ref (ad 20 0)), (1, .int x1), (2, .int x2)]) hC dX9_count_58 rfl rfl (by decide) rfl ?_
    refine Z_goto (tgt := 39) hC dX9_count_61 (by decide) ?_
    exact Z_pick [2, 3, 4, 1, 0] rfl k
end ZL
