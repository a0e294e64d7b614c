section ZL
variable {l : Launch} {ad : ZA} {D : va_G} {ia : Nat → ClassId} {d : Nat}
set_option maxRecDepth 100000 in
set_option maxHeartbeats 4000000 in
theorem bX2_foresee_0 {o1 : Nat} (ho1 : zcls o1 = 0) {o2 : Nat} (ho2 : zcls o2 = 0) {x3 : Int32} {x4 : Int32} {C : ZC} {X : Option Value} {Y : ZS} {s : ZS} (hC : Zok ad D ia C (d + 1) cX2_foresee 6 RX2 none) (k : Z l ad D ia C X Y 3 [(0, .ref (ad 19 0)), (1, .ref (ad o1 0)), (2, .ref (ad o2 0)), (3, .int x3), (4, .int x4), (5, .int 0)] [] s) : Z l ad D ia C X Y 0 [(0, .ref (ad 19 0)), (1, .ref (ad o1 0)), (2, .ref (ad o2 0)), (3, .int x3), (4, .int x4)] [] s := by
  refine Z_iconst (v := 0) hC dX2_foresee_0 rfl ?_
  refine Z_istore (V2 := [(5, .int 0), (0, .ref (ad 19 0)), (1, .ref (ad o1 0)), (2, .ref (ad o2 0)), (3, .int x3), (4, .int x4)]) hC dX2_foresee_1 (by decide) rfl ?_
  exact Z_pick [1, 2, 3, 4, 5, 0] rfl k
theorem eX2_foresee {o1 : Nat} (ho1 : zcls o1 = 0) {o2 : Nat} (ho2 : zcls o2 = 0) {x3 : Int32} {x4 : Int32} {X : Option Value} {Y : ZS} {s : ZS} (k : ∀ C : ZC, Zok ad D ia C (d + 1) cX2_foresee 6 RX2 none → Z l ad D ia C X Y 3 [(0, .ref (ad 19 0)), (1, .ref (ad o1 0)), (2, .ref (ad o2 0)), (3, .int x3), (4, .int x4), (5, .int 0)] [] s) : Ev l ad D ia (d + 1) mX2_foresee [.ref (ad 19 0), .ref (ad o1 0), .ref (ad o2 0), .int x3, .int x4] s X Y :=
  Ev.start (by decide +kernel) (Nat.le_of_ble_eq_true rfl) (fun C hC => bX2_foresee_0 ho1 ho2 hC (k C hC))
set_option maxRecDepth 100000 in
set_option maxHeartbeats 4000000 in
theorem bX2_foresee_3 {o1 : Nat} (ho1 : zcls o1 = 0) {o2 : Nat} (ho2 : zcls o2 = 0) {x3 : Int32} {x4 : Int32} {x5 : Int32} {C : ZC} {X : Option Value} {Y : ZS} {s : ZS} (hC : Zok ad D ia C (d + 1) cX2_foresee 6 RX2 none) (k : ((9 < x5 → (X = none ∧ Y = s)) ∧ (¬ 9 < x5 → ((((x4 >>> (x5 &&& 31)) &&& 1) = 0 → Z l ad D ia C X Y 3 [(0, .ref (ad 19 0)), (1, .ref (ad o1 0)), (2, .ref (ad o2 0)), (3, .int x3), (4, .int x4), (5, .int (x5 + 1))] [] s) ∧ (¬ ((x4 >>> (x5 &&& 31)) &&& 1) = 0 → (∃ s3 : ZS, Ev l ad D ia d mX0_copyFrom [.ref (ad o2 0), .ref (ad o1 0)] s none s3 ∧ (vp_in x3 8 ∧ (∀ s6 : ZS, s6 = stA s3 o2 2 x3.toNatClampNeg x5 → (vp_in x5 10 ∧ (zis 19 (10 + x5.toNatClampNeg) 0 84 ∧ (∃ s9 : ZS, Ev l ad D ia d mX2_note [.ref (ad o2 0), .ref (ad 19 ((10 + x5.toNatClampNeg) + 1))] s6 none s9 ∧ Z l ad D ia C X Y 3 [(0, .ref (ad 19 0)), (1, .ref (ad o1 0)), (2, .ref (ad o2 0)), (3, .int x3), (4, .int x4), (5, .int (x5 + 1))] [] s9))))))))))) : Z l ad D ia C X Y 3 [(0, .ref (ad 19 0)), (1, .ref (ad o1 0)), (2, .ref (ad o2 0)), (3, .int x3), (4, .int x4), (5, .int x5)] [] s := by
  refine Z_iload hC dX2_foresee_3 rfl ?_
  refine Z_bipush (v := 9) hC dX2_foresee_5 rfl ?_
  refine Z_icmp_gt (tgt := 50) hC dX2_foresee_7 (by decide) (fun c1 => ?_) (fun c1 => ?_)
  · have k := k.1 c1
    exact Z_vret hC dX2_foresee_50 k.1 k.2
  · have k := k.2 c1
    refine Z_iload hC dX2_foresee_10 rfl ?_
    refine Z_iload hC dX2_foresee_12 rfl ?_
    refine Z_ishr hC dX2_foresee_14 ?_
    refine Z_iconst (v := 1) hC dX2_foresee_15 rfl ?_
    refine Z_iand hC dX2_foresee_16 ?_
    refine Z_if_eq (tgt := 44) hC dX2_foresee_17 (by decide) (fun c2 => ?_) (fun c2 => ?_)
    · have k := k.1 c2
      refine Z_iinc (v := x5 + 1) (V2 := [(5, .int (x5 + 1)), (0, .ref (ad 19 0)), (1, .ref (ad o1 0)), (2, .ref (ad o2 0)), (3, .int x3), (4, .int x4)]) hC dX2_foresee_44 rfl rfl (by decide) rfl ?_
      refine Z_goto (tgt := 3) hC dX2_foresee_47 (by decide) ?_
      exact Z_pick [1, 2, 3, 4, 5, 0] rfl k
    · have k := k.2 c2
      refine Z_aload_n hC dX2_foresee_20 rfl rfl ?_
      refine Z_aload_n hC dX2_foresee_21 rfl rfl ?_
      obtain ⟨s3, h4, k⟩ := k
      refine Z_callV (As := [.ref (ad o1 0)]) (rest := []) hC h4 cvX2_20 ⟨0, ho2, zs_0, _, rfl, rfl⟩ rfl rfl (Nat.le_of_ble_eq_true rfl) dX2_foresee_22 ?_
      refine Z_aload_n hC dX2_foresee_25 rfl rfl ?_
      refine Z_get (o := o2) (c := 0) (k := 2) (v := .ref (ad o2 3)) hC ho2 zs_0 lkX2_26 rfl dX2_foresee_26 ?_
      refine Z_iload_n hC dX2_foresee_29 rfl rfl ?_
      refine Z_iload hC dX2_foresee_30 rfl ?_
      obtain ⟨h5, k⟩ := k
      refine Z_iast2 (o := o2) (k := 2) hC (zis_of ho2 rfl) h5 dX2_foresee_32 (fun s6 es6 => ?_)
      have k := k s6 es6
      refine Z_aload_n hC dX2_foresee_33 rfl rfl ?_
      refine Z_aload_n hC dX2_foresee_34 rfl rfl ?_
      refine Z_get (o := 19) (c := 2) (k := 0) (v := .ref (ad 19 1)) hC rfl zs_2 lkX2_11 rfl dX2_foresee_35 ?_
      refine Z_iload hC dX2_foresee_38 rfl ?_
      obtain ⟨h7, k⟩ := k
      refine Z_aaldR hC h7 dX2_foresee_40 ?_
      obtain ⟨h8, k⟩ := k
      obtain ⟨s9, h10, k⟩ := k
      refine Z_callS (As := [.ref (ad o2 0), .ref (ad 19 ((10 + x5.toNatClampNeg) + 1))]) (rest := []) hC h10 csX2_29 rfl rfl (Nat.le_of_ble_eq_true rfl) dX2_foresee_41 ?_
      refine Z_iinc (v := x5 + 1) (V2 := [(5, .int (x5 + 1)), (0, .ref (ad 19 0)), (1, .ref (ad o1 0)), (2, .ref (ad o2 0)), (3, .int x3), (4, .int x4)]) hC dX2_foresee_44 rfl rfl (by decide) rfl ?_
      refine Z_goto (tgt := 3) hC dX2_foresee_47 (by decide) ?_
      exact Z_pick [1, 2, 3, 4, 5, 0] rfl k
set_option maxRecDepth 100000 in
set_option maxHeartbeats 4000000 in
theorem bX2_note_0 {o0 : Nat} (ho0 : zcls o0 = 0) {ro1 rk1 rn1 : Nat} (hr1 : zis ro1 rk1 0 rn1) {C : ZC} {X : Option Value} {Y : ZS} {s : ZS} (hC : Zok ad D ia C (d + 1) cX2_note 4 RX2 none) (k : Z l ad D ia C X Y 2 [(0, .ref (ad o0 0)), (1, .ref (ad ro1 (rk1 + 1))), (2, .int 0)] [] s) : Z l ad D ia C X Y 0 [(0, .ref (ad o0 0)), (1, .ref (ad ro1 (rk1 + 1)))] [] s := by
  refine Z_iconst (v := 0) hC dX2_note_0 rfl ?_
  refine Z_istore_n (V2 := [(2, .int 0), (0, .ref (ad o0 0)), (1, .ref (ad ro1 (rk1 + 1)))]) hC dX2_note_1 rfl (by decide) rfl ?_
  exact Z_pick [1, 2, 0] rfl k
theorem eX2_note {o0 : Nat} (ho0 : zcls o0 = 0) {ro1 rk1 rn1 : Nat} (hr1 : zis ro1 rk1 0 rn1) {X : Option Value} {Y : ZS} {s : ZS} (k : ∀ C : ZC, Zok ad D ia C (d + 1) cX2_note 4 RX2 none → Z l ad D ia C X Y 2 [(0, .ref (ad o0 0)), (1, .ref (ad ro1 (rk1 + 1))), (2, .int 0)] [] s) : Ev l ad D ia (d + 1) mX2_note [.ref (ad o0 0), .ref (ad ro1 (rk1 + 1))] s X Y :=
  Ev.start (by decide +kernel) (Nat.le_of_ble_eq_true rfl) (fun C hC => bX2_note_0 ho0 hr1 hC (k C hC))
set_option maxRecDepth 100000 in
set_option maxHeartbeats 4000000 in
theorem bX2_note_2 {o0 : Nat} (ho0 : zcls o0 = 0) {ro1 rk1 rn1 : Nat} (hr1 : zis ro1 rk1 0 rn1) {x2 : Int32} {C : ZC} {X : Option Value} {Y : ZS} {s : ZS} (hC : Zok ad D ia C (d + 1) cX2_note 4 RX2 none) (k : ((20 < x2 → (X = none ∧ Y = s)) ∧ (¬ 20 < x2 → Z l ad D ia C X Y 10 [(0, .ref (ad o0 0)), (1, .ref (ad ro1 (rk1 + 1))), (2, .int x2), (3, .int 0)] [] s))) : Z l ad D ia C X Y 2 [(0, .ref (ad o0 0)), (1, .ref (ad ro1 (rk1 + 1))), (2, .int x2)] [] s := by
  refine Z_iload_n hC dX2_note_2 rfl rfl ?_
  refine Z_bipush (v := 20) hC dX2_note_3 rfl ?_
  refine Z_icmp_gt (tgt := 60) hC dX2_note_5 (by decide) (fun c1 => ?_) (fun c1 => ?_)
  · have k := k.1 c1
    exact Z_vret hC dX2_note_60 k.1 k.2
  · have k := k.2 c1
    refine Z_iconst (v := 0) hC dX2_note_8 rfl ?_
    refine Z_istore_n (V2 := [(3, .int 0), (0, .ref (ad o0 0)), (1, .ref (ad ro1 (rk1 + 1))), (2, .int x2)]) hC dX2_note_9 rfl (by decide) rfl ?_
    exact Z_pick [1, 2, 3, 0] rfl k
set_option maxRecDepth 100000 in
set_option maxHeartbeats 4000000 in
theorem bX2_note_10 {o0 : Nat} (ho0 : zcls o0 = 0) {ro1 rk1 rn1 : Nat} (hr1 : zis ro1 rk1 0 rn1) {x2 : Int32} {x3 : Int32} {C : ZC} {X : Option Value} {Y : ZS} {s : ZS} (hC : Zok ad D ia C (d + 1) cX2_note 4 RX2 none) (k : ((((s o0).1 4) ≤ x3 → (∃ s2 : ZS, Ev l ad D ia d mX0_passDay [.ref (ad o0 0)] s none s2 ∧ Z l ad D ia C X Y 2 [(0, .ref (ad o0 0)), (1, .ref (ad ro1 (rk1 + 1))), (2, .int (x2 + 1))] [] s2)) ∧ (¬ ((s o0).1 4) ≤ x3 → (∃ (r5 : Int32) (s4 : ZS), Ev l ad D ia d mX0_isDone [.ref (ad o0 0), .int x3] s (some (.int r5)) s4 ∧ ((r5 = 0 → (vp_in x3 4 ∧ (vp_in ((x2 * 4) + x3) rn1 ∧ (∀ s10 : ZS, s10 = stA s4 ro1 rk1 ((x2 * 4) + x3).toNatClampNeg ((s4 o0).2.2 6 x3.toNatClampNeg) → Z l ad D ia C X Y 10 [(0, .ref (ad o0 0)), (1, .ref (ad ro1 (rk1 + 1))), (2, .int x2), (3, .int (x3 + 1))] [] s10)))) ∧ (¬ r5 = 0 → (vp_in ((x2 * 4) + x3) rn1 ∧ (∀ s12 : ZS, s12 = stA s4 ro1 rk1 ((x2 * 4) + x3).toNatClampNeg 8 → Z l ad D ia C X Y 10 [(0, .ref (ad o0 0)), (1, .ref (ad ro1 (rk1 + 1))), (2, .int x2), (3, .int (x3 + 1))] [] s12)))))))) : Z l ad D ia C X Y 10 [(0, .ref (ad o0 0)), (1, .ref (ad ro1 (rk1 + 1))), (2, .int x2), (3, .int x3)] [] s := by
  refine Z_iload_n hC dX2_note_10 rfl rfl ?_
  refine Z_aload_n hC dX2_note_11 rfl rfl ?_
  refine Z_get (o := o0) (c := 0) (k := 4) (v := .int ((s o0).1 4)) hC ho0 zs_0 lkX2_33 rfl dX2_note_12 ?_
  refine Z_icmp_ge (tgt := 50) hC dX2_note_15 (by decide) (fun c1 => ?_) (fun c1 => ?_)
  · have k := k.1 c1
    refine Z_aload_n hC dX2_note_50 rfl rfl ?_
    obtain ⟨s2, h3, k⟩ := k
    refine Z_callV (As := []) (rest := []) hC h3 cvX2_44 ⟨0, ho0, zs_0, _, rfl, rfl⟩ rfl rfl (Nat.le_of_ble_eq_true rfl) dX2_note_51 ?_
    refine Z_iinc (v := x2 + 1) (V2 := [(2, .int (x2 + 1)), (0, .ref (ad o0 0)), (1, .ref (ad ro1 (rk1 + 1))), (3, .int x3)]) hC dX2_note_54 rfl rfl (by decide) rfl ?_
    refine Z_goto (tgt := 2) hC dX2_note_57 (by decide) ?_
    exact Z_pick [1, 2, 0] rfl k
  · have k := k.2 c1
    refine Z_aload_n hC dX2_note_18 rfl rfl ?_
    refine Z_iload_n hC dX2_note_19 rfl rfl ?_
    refine Z_iconst (v := 4) hC dX2_note_20 rfl ?_
    refine Z_imul hC dX2_note_21 ?_
    refine Z_iload_n hC dX2_note_22 rfl rfl ?_
    refine Z_iadd hC dX2_note_23 ?_
    refine Z_aload_n hC dX2_note_24 rfl rfl ?_
    refine Z_iload_n hC dX2_note_25 rfl rfl ?_
    obtain ⟨r5, s4, h6, k⟩ := k
    refine Z_callV (As := [.int x3]) (rest := [.int ((x2 * 4) + x3), .ref (ad ro1 (rk1 + 1))]) hC h6 cvX2_37 ⟨0, ho0, zs_0, _, rfl, rfl⟩ rfl rfl (Nat.le_of_ble_eq_true rfl) dX2_note_26 ?_
    refine Z_if_eq (tgt := 37) hC dX2_note_29 (by decide) (fun c7 => ?_) (fun c7 => ?_)
    · have k := k.1 c7
      refine Z_aload_n hC dX2_note_37 rfl rfl ?_
      refine Z_get (o := o0) (c := 0) (k := 6) (v := .ref (ad o0 7)) hC ho0 zs_0 lkX2_41 rfl dX2_note_38 ?_
      refine Z_iload_n hC dX2_note_41 rfl rfl ?_
      obtain ⟨h8, k⟩ := k
      refine Z_iald (o := o0) (k := 6) hC (zis_of ho0 rfl) h8 dX2_note_42 ?_
      obtain ⟨h9, k⟩ := k
      refine Z_iast2 (o := ro1) (k := rk1) hC hr1 h9 dX2_note_43 (fun s10 es10 => ?_)
      have k := k s10 es10
      refine Z_iinc (v := x3 + 1) (V2 := [(3, .int (x3 + 1)), (0, .ref (ad o0 0)), (1, .ref (ad ro1 (rk1 + 1))), (2, .int x2)]) hC dX2_note_44 rfl rfl (by decide) rfl ?_
      refine Z_goto (tgt := 10) hC dX2_note_47 (by decide) ?_
      exact Z_pick [1, 2, 3, 0] rfl k
    · have k := k.2 c7
      refine Z_bipush (v := 8) hC dX2_note_32 rfl ?_
      refine Z_goto (tgt := 43) hC dX2_note_34 (by decide) ?_
      obtain ⟨h11, k⟩ := k
      refine Z_iast2 (o := ro1) (k := rk1) hC hr1 h11 dX2_note_43 (fun s12 es12 => ?_)
      have k := k s12 es12
      refine Z_iinc (v := x3 + 1) (V2 := [(3, .int (x3 + 1)), (0, .ref (ad o0 0)), (1, .ref (ad ro1 (rk1 + 1))), (2, .int x2)]) hC dX2_note_44 rfl rfl (by decide) rfl ?_
      refine Z_goto (tgt := 10) hC dX2_note_47 (by decide) ?_
      exact Z_pick [1, 2, 3, 0] rfl k
set_option maxRecDepth 100000 in
set_option maxHeartbeats 4000000 in
theorem bX2_mostLeft_0 {x1 : Int32} {x2 : Int32} {x3 : Int32} {C : ZC} {X : Option Value} {Y : ZS} {s : ZS} (hC : Zok ad D ia C (d + 1) cX2_mostLeft 7 RX2 (some .int)) (k : Z l ad D ia C X Y 3 [(0, .ref (ad 19 0)), (1, .int x1), (2, .int x2), (3, .int x3), (4, .int 0)] [] s) : Z l ad D ia C X Y 0 [(0, .ref (ad 19 0)), (1, .int x1), (2, .int x2), (3, .int x3)] [] s := by
  refine Z_iconst (v := 0) hC dX2_mostLeft_0 rfl ?_
  refine Z_istore (V2 := [(4, .int 0), (0, .ref (ad 19 0)), (1, .int x1), (2, .int x2), (3, .int x3)]) hC dX2_mostLeft_1 (by decide) rfl ?_
  exact Z_pick [1, 2, 3, 4, 0] rfl k
theorem eX2_mostLeft {x1 : Int32} {x2 : Int32} {x3 : Int32} {X : Option Value} {Y : ZS} {s : ZS} (k : ∀ C : ZC, Zok ad D ia C (d + 1) cX2_mostLeft 7 RX2 (some .int) → Z l ad D ia C X Y 3 [(0, .ref (ad 19 0)), (1, .int x1), (2, .int x2), (3, .int x3), (4, .int 0)] [] s) : Ev l ad D ia (d + 1) mX2_mostLeft [.ref (ad 19 0), .int x1, .int x2, .int x3] s X Y :=
  Ev.start (by decide +kernel) (Nat.le_of_ble_eq_true rfl) (fun C hC => bX2_mostLeft_0  hC (k C hC))
set_option maxRecDepth 100000 in
set_option maxHeartbeats 4000000 in
theorem bX2_mostLeft_3 {x1 : Int32} {x2 : Int32} {x3 : Int32} {x4 : Int32} {C : ZC} {X : Option Value} {Y : ZS} {s : ZS} (hC : Zok ad D ia C (d + 1) cX2_mostLeft 7 RX2 (some .int)) (k : ((8 < x4 → Z l ad D ia C X Y 30 [(0, .ref (ad 19 0)), (1, .int x1), (2, .int x2), (3, .int x3), (4, .int 0), (5, .int 0)] [] s) ∧ (¬ 8 < x4 → (vp_in x4 9 ∧ (∀ s3 : ZS, s3 = stA s 19 1 x4.toNatClampNeg 0 → Z l ad D ia C X Y 3 [(0, .ref (ad 19 0)), (1, .int x1), (2, .int x2), (3, .int x3), (4, .int (x4 + 1))] [] s3))))) : Z l ad D ia C X Y 3 [(0, .ref (ad 19 0)), (1, .int x1), (2, .int x2), (3, .int x3), (4, .int x4)] [] s := by
  refine Z_iload hC dX2_mostLeft_3 rfl ?_
  refine Z_bipush (v := 8) hC dX2_mostLeft_5 rfl ?_
  refine Z_icmp_gt (tgt := 24) hC dX2_mostLeft_7 (by decide) (fun c1 => ?_) (fun c1 => ?_)
  · have k := k.1 c1
    refine Z_iconst (v := 0) hC dX2_mostLeft_24 rfl ?_
    refine Z_istore (V2 := [(4, .int 0), (0, .ref (ad 19 0)), (1, .int x1), (2, .int x2), (3, .int x3)]) hC dX2_mostLeft_25 (by decide) rfl ?_
    refine Z_iconst (v := 0) hC dX2_mostLeft_27 rfl ?_
    refine Z_istore (V2 := [(5, .int 0), (4, .int 0), (0, .ref (ad 19 0)), (1, .int x1), (2, .int x2), (3, .int x3)]) hC dX2_mostLeft_28 (by decide) rfl ?_
    exact Z_pick [2, 3, 4, 5, 1, 0] rfl k
  · have k := k.2 c1
    refine Z_aload_n hC dX2_mostLeft_10 rfl rfl ?_
    refine Z_get (o := 19) (c := 2) (k := 1) (v := .ref (ad 19 2)) hC rfl zs_2 lkX2_16 rfl dX2_mostLeft_11 ?_
    refine Z_iload hC dX2_mostLeft_14 rfl ?_
    refine Z_iconst (v := 0) hC dX2_mostLeft_16 rfl ?_
    obtain ⟨h2, k⟩ := k
    refine Z_iast2 (o := 19) (k := 1) hC (zis_of rfl rfl) h2 dX2_mostLeft_17 (fun s3 es3 => ?_)
    have k := k s3 es3
    refine Z_iinc (v := x4 + 1) (V2 := [(4, .int (x4 + 1)), (0, .ref (ad 19 0)), (1, .int x1), (2, .int x2), (3, .int x3)]) hC dX2_mostLeft_18 rfl rfl (by decide) rfl ?_
    refine Z_goto (tgt := 3) hC dX2_mostLeft_21 (by decide) ?_
    exact Z_pick [1, 2, 3, 4, 0] rfl k
set_option maxRecDepth 100000 in
set_option maxHeartbeats 4000000 in
theorem bX2_mostLeft_30 {x1 : Int32} {x2 : Int32} {x3 : Int32} {x4 : Int32} {x5 : Int32} {C : ZC} {X : Option Value} {Y : ZS} {s : ZS} (hC : Zok ad D ia C (d + 1) cX2_mostLeft 7 RX2 (some .int)) (k : ((9 < x5 → (X = some (.int x4) ∧ Y = s)) ∧ (¬ 9 < x5 → ((((x1 >>> (x5 &&& 31)) &&& 1) = 0 → Z l ad D ia C X Y 30 [(0, .ref (ad 19 0)), (1, .int x1), (2, .int x2), (3, .int x3), (4, .int x4), (5, .int (x5 + 1))] [] s) ∧ (¬ ((x1 >>> (x5 &&& 31)) &&& 1) = 0 → (vp_in x5 10 ∧ (zis 19 (10 + x5.toNatClampNeg) 0 84 ∧ (vp_in ((x2 * 4) + x3) 84 ∧ (vp_in ((s 19).2.2 ((10 + x5.toNatClampNeg)) ((x2 * 4) + x3).toNatClampNeg) 9 ∧ (vp_in ((s 19).2.2 ((10 + x5.toNatClampNeg)) ((x2 * 4) + x3).toNatClampNeg) 9 ∧ (∀ s8 : ZS, s8 = stA s 19 1 ((s 19).2.2 ((10 + x5.toNatClampNeg)) ((x2 * 4) + x3).toNatClampNeg).toNatClampNeg (((s 19).2.2 1 ((s 19).2.2 ((10 + x5.toNatClampNeg)) ((x2 * 4) + x3).toNatClampNeg).toNatClampNeg) + 1) → (vp_in ((s 19).2.2 ((10 + x5.toNatClampNeg)) ((x2 * 4) + x3).toNatClampNeg) 9 ∧ Z l ad D ia C X Y 30 [(0, .ref (ad 19 0)), (1, .int x1), (2, .int x2), (3, .int x3), (4, .int (mmax x4 ((s8 19).2.2 1 ((s 19).2.2 ((10 + x5.toNatClampNeg)) ((x2 * 4) + x3).toNatClampNeg).toNatClampNeg))), (5, .int (x5 + 1))] [] s8)))))))))))) : Z l ad D ia C X Y 30 [(0, .ref (ad 19 0)), (1, .int x1), (2, .int x2), (3, .int x3), (4, .int x4), (5, .int x5)] [] s := by
  refine Z_iload hC dX2_mostLeft_30 rfl ?_
  refine Z_bipush (v := 9) hC dX2_mostLeft_32 rfl ?_
  refine Z_icmp_gt (tgt := 92) hC dX2_mostLeft_34 (by decide) (fun c1 => ?_) (fun c1 => ?_)
  · have k := k.1 c1
    refine Z_iload hC dX2_mostLeft_92 rfl ?_
    exact Z_iret hC dX2_mostLeft_94 k.1 k.2
  · have k := k.2 c1
    refine Z_iload_n hC dX2_mostLeft_37 rfl rfl ?_
    refine Z_iload hC dX2_mostLeft_38 rfl ?_
    refine Z_ishr hC dX2_mostLeft_40 ?_
    refine Z_iconst (v := 1) hC dX2_mostLeft_41 rfl ?_
    refine Z_iand hC dX2_mostLeft_42 ?_
    refine Z_if_eq (tgt := 86) hC dX2_mostLeft_43 (by decide) (fun c2 => ?_) (fun c2 => ?_)
    · have k := k.1 c2
      refine Z_iinc (v := x5 + 1) (V2 := [(5, .int (x5 + 1)), (0, .ref (ad 19 0)), (1, .int x1), (2, .int x2), (3, .int x3), (4, .int x4)]) hC dX2_mostLeft_86 rfl rfl (by decide) rfl ?_
      refine Z_goto (tgt := 30) hC dX2_mostLeft_89 (by decide) ?_
      exact Z_pick [1, 2, 3, 4, 5, 0] rfl k
    · have k := k.2 c2
      refine Z_aload_n hC dX2_mostLeft_46 rfl rfl ?_
      refine Z_get (o := 19) (c := 2) (k := 0) (v := .ref (ad 19 1)) hC rfl zs_2 lkX2_11 rfl dX2_mostLeft_47 ?_
      refine Z_iload hC dX2_mostLeft_50 rfl ?_
      obtain ⟨h3, k⟩ := k
      refine Z_aaldR hC h3 dX2_mostLeft_52 ?_
      obtain ⟨h4, k⟩ := k
      refine Z_iload_n hC dX2_mostLeft_53 rfl rfl ?_
      refine Z_iconst (v := 4) hC dX2_mostLeft_54 rfl ?_
      refine Z_imul hC dX2_mostLeft_55 ?_
      refine Z_iload_n hC dX2_mostLeft_56 rfl rfl ?_
      refine Z_iadd hC dX2_mostLeft_57 ?_
      obtain ⟨h5, k⟩ := k
      refine Z_iald (o := 19) (k := (10 + x5.toNatClampNeg)) hC h4 h5 dX2_mostLeft_58 ?_
      refine Z_istore (V2 := [(6, .int ((s 19).2.2 ((10 + x5.toNatClampNeg)) ((x2 * 4) + x3).toNatClampNeg)), (0, .ref (ad 19 0)), (1, .int x1), (2, .int x2), (3, .int x3), (4, .int x4), (5, .int x5)]) hC dX2_mostLeft_59 (by decide) rfl ?_
      refine Z_aload_n hC dX2_mostLeft_61 rfl rfl ?_
      refine Z_get (o := 19) (c := 2) (k := 1) (v := .ref (ad 19 2)) hC rfl zs_2 lkX2_16 rfl dX2_mostLeft_62 ?_
      refine Z_iload hC dX2_mostLeft_65 rfl ?_
      refine Z_dup2 hC dX2_mostLeft_67 rfl rfl ?_
      obtain ⟨h6, k⟩ := k
      refine Z_iald (o := 19) (k := 1) hC (zis_of rfl rfl) h6 dX2_mostLeft_68 ?_
      refine Z_iconst (v := 1) hC dX2_mostLeft_69 rfl ?_
      refine Z_iadd hC dX2_mostLeft_70 ?_
      obtain ⟨h7, k⟩ := k
      refine Z_iast2 (o := 19) (k := 1) hC (zis_of rfl rfl) h7 dX2_mostLeft_71 (fun s8 es8 => ?_)
      have k := k s8 es8
      refine Z_iload hC dX2_mostLeft_72 rfl ?_
      refine Z_aload_n hC dX2_mostLeft_74 rfl rfl ?_
      refine Z_get (o := 19) (c := 2) (k := 1) (v := .ref (ad 19 2)) hC rfl zs_2 lkX2_16 rfl dX2_mostLeft_75 ?_
      refine Z_iload hC dX2_mostLeft_78 rfl ?_
      obtain ⟨h9, k⟩ := k
      refine Z_iald (o := 19) (k := 1) hC (zis_of rfl rfl) h9 dX2_mostLeft_80 ?_
      refine Z_mmax hC mlX2_47 ms_max mi_math mc_max (Nat.le_of_ble_eq_true rfl) dX2_mostLeft_81 ?_
      refine Z_istore (V2 := [(4, .int (mmax x4 ((s8 19).2.2 1 ((s 19).2.2 ((10 + x5.toNatClampNeg)) ((x2 * 4) + x3).toNatClampNeg).toNatClampNeg))), (6, .int ((s 19).2.2 ((10 + x5.toNatClampNeg)) ((x2 * 4) + x3).toNatClampNeg)), (0, .ref (ad 19 0)), (1, .int x1), (2, .int x2), (3, .int x3), (5, .int x5)]) hC dX2_mostLeft_84 (by decide) rfl ?_
      refine Z_iinc (v := x5 + 1) (V2 := [(5, .int (x5 + 1)), (4, .int (mmax x4 ((s8 19).2.2 1 ((s 19).2.2 ((10 + x5.toNatClampNeg)) ((x2 * 4) + x3).toNatClampNeg).toNatClampNeg))), (6, .int ((s 19).2.2 ((10 + x5.toNatClampNeg)) ((x2 * 4) + x3).toNatClampNeg)), (0, .ref (ad 19 0)), (1, .int x1), (2, .int x2), (3, .int x3)]) hC dX2_mostLeft_86 rfl rfl (by decide) rfl ?_
      refine Z_goto (tgt := 30) hC dX2_mostLeft_89 (by decide) ?_
      exact Z_pick [3, 4, 5, 6, 1, 0] rfl k
set_option maxRecDepth 100000 in
set_option maxHeartbeats 4000000 in
theorem bX4_foresee_0 {o1 : Nat} (ho1 : zcls o1 = 0) {o2 : Nat} (ho2 : zcls o2 = 0) {x3 : Int32} {C : ZC} {X : Option Value} {Y : ZS} {s : ZS} (hC : Zok ad D ia C (d + 1) cX4_foresee 6 RX4 none) (k : (∀ s1 : ZS, s1 = stI s 18 0 (mmin x3 8) → (∃ s2 : ZS, Ev l ad D ia d mX0_copyFrom [.ref (ad o2 0), .ref (ad o1 0)] s1 none s2 ∧ Z l ad D ia C X Y 18 [(0, .ref (ad 18 0)), (2, .ref (ad o2 0)), (4, .int 0)] [] s2))) : Z l ad D ia C X Y 0 [(0, .ref (ad 18 0)), (1, .ref (ad o1 0)), (2, .ref (ad o2 0)), (3, .int x3)] [] s := by
  refine Z_aload_n hC dX4_foresee_0 rfl rfl ?_
  refine Z_iload_n hC dX4_foresee_1 rfl rfl ?_
  refine Z_bipush (v := 8) hC dX4_foresee_2 rfl ?_
  refine Z_mmin hC mlX4_25 ms_min mi_math mc_min (Nat.le_of_ble_eq_true rfl) dX4_foresee_4 ?_
  refine Z_putI (o := 18) (k := 0) hC rfl zs_4 pkX4_31 rfl rfl (hsX4_0 _ _ _) dX4_foresee_7 (fun s1 es1 => ?_)
  have k := k s1 es1
  refine Z_aload_n hC dX4_foresee_10 rfl rfl ?_
  refine Z_aload_n hC dX4_foresee_11 rfl rfl ?_
  obtain ⟨s2, h3, k⟩ := k
  refine Z_callV (As := [.ref (ad o1 0)]) (rest := []) hC h3 cvX4_35 ⟨0, ho2, zs_0, _, rfl, rfl⟩ rfl rfl (Nat.le_of_ble_eq_true rfl) dX4_foresee_12 ?_
  refine Z_iconst (v := 0) hC dX4_foresee_15 rfl ?_
  refine Z_istore (V2 := [(4, .int 0), (0, .ref (ad 18 0)), (1, .ref (ad o1 0)), (2, .ref (ad o2 0)), (3, .int x3)]) hC dX4_foresee_16 (by decide) rfl ?_
  exact Z_pick [1, 3, 0] rfl k
theorem eX4_foresee {o1 : Nat} (ho1 : zcls o1 = 0) {o2 : Nat} (ho2 : zcls o2 = 0) {x3 : Int32} {X : Option Value} {Y : ZS} {s : ZS} (k : ∀ C : ZC, Zok ad D ia C (d + 1) cX4_foresee 6 RX4 none → (∀ s1 : ZS, s1 = stI s 18 0 (mmin x3 8) → (∃ s2 : ZS, Ev l ad D ia d mX0_copyFrom [.ref (ad o2 0), .ref (ad o1 0)] s1 none s2 ∧ Z l ad D ia C X Y 18 [(0, .ref (ad 18 0)), (2, .ref (ad o2 0)), (4, .int 0)] [] s2))) : Ev l ad D ia (d + 1) mX4_foresee [.ref (ad 18 0), .ref (ad o1 0), .ref (ad o2 0), .int x3] s X Y :=
  Ev.start (by decide +kernel) (Nat.le_of_ble_eq_true rfl) (fun C hC => bX4_foresee_0 ho1 ho2 hC (k C hC))
set_option maxRecDepth 100000 in
set_option maxHeartbeats 4000000 in
theorem bX4_foresee_18 {o2 : Nat} (ho2 : zcls o2 = 0) {x4 : Int32} {C : ZC} {X : Option Value} {Y : ZS} {s : ZS} (hC : Zok ad D ia C (d + 1) cX4_foresee 6 RX4 none) (k : ((((s 18).1 0) ≤ x4 → (X = none ∧ Y = s)) ∧ (¬ ((s 18).1 0) ≤ x4 → (∃ s2 : ZS, Ev l ad D ia d mX0_copyFrom [.ref (ad 4 0), .ref (ad o2 0)] s none s2 ∧ (∀ s4 : ZS, s4 = stI s2 4 9 7 → (∃ s5 : ZS, Ev l ad D ia d mX0_passDay [.ref (ad 4 0)] s4 none s5 ∧ (vp_in x4 8 ∧ (∀ s8 : ZS, s8 = stA s5 18 2 x4.toNatClampNeg (((s5 4).1 10) - ((s o2).1 10)) → (∃ s9 : ZS, Ev l ad D ia d mX0_passDay [.ref (ad o2 0)] s8 none s9 ∧ (vp_in x4 8 ∧ (∀ s12 : ZS, s12 = stA s9 18 1 x4.toNatClampNeg (((s9 o2).1 10) - ((s o2).1 10)) → Z l ad D ia C X Y 18 [(0, .ref (ad 18 0)), (2, .ref (ad o2 0)), (4, .int (x4 + 1))] [] s12))))))))))) : Z l ad D ia C X Y 18 [(0, .ref (ad 18 0)), (2, .ref (ad o2 0)), (4, .int x4)] [] s := by
  refine Z_iload hC dX4_foresee_18 rfl ?_
  refine Z_aload_n hC dX4_foresee_20 rfl rfl ?_
  refine Z_get (o := 18) (c := 4) (k := 0) (v := .int ((s 18).1 0)) hC rfl zs_4 lkX4_31 rfl dX4_foresee_21 ?_
  refine Z_icmp_ge (tgt := 98) hC dX4_foresee_24 (by decide) (fun c1 => ?_) (fun c1 => ?_)
  · have k := k.1 c1
    exact Z_vret hC dX4_foresee_98 k.1 k.2
  · have k := k.2 c1
    refine Z_aload_n hC dX4_foresee_27 rfl rfl ?_
    refine Z_get (o := o2) (c := 0) (k := 10) (v := .int ((s o2).1 10)) hC ho2 zs_0 lkX4_39 rfl dX4_foresee_28 ?_
    refine Z_istore (V2 := [(5, .int ((s o2).1 10)), (0, .ref (ad 18 0)), (2, .ref (ad o2 0)), (4, .int x4)]) hC dX4_foresee_31 (by decide) rfl ?_
    refine Z_aload_n hC dX4_foresee_33 rfl rfl ?_
    refine Z_get (o := 18) (c := 4) (k := 3) (v := .ref (ad 4 0)) hC rfl zs_4 lkX4_21 rfl dX4_foresee_34 ?_
    refine Z_aload_n hC dX4_foresee_37 rfl rfl ?_
    obtain ⟨s2, h3, k⟩ := k
    refine Z_callV (As := [.ref (ad o2 0)]) (rest := []) hC h3 cvX4_35 ⟨0, rfl, zs_0, _, rfl, rfl⟩ rfl rfl (Nat.le_of_ble_eq_true rfl) dX4_foresee_38 ?_
    refine Z_aload_n hC dX4_foresee_41 rfl rfl ?_
    refine Z_get (o := 18) (c := 4) (k := 3) (v := .ref (ad 4 0)) hC rfl zs_4 lkX4_21 rfl dX4_foresee_42 ?_
    refine Z_bipush (v := 7) hC dX4_foresee_45 rfl ?_
    refine Z_putI (o := 4) (k := 9) hC rfl zs_0 pkX4_42 rfl rfl (hsX0_9 _ _ _) dX4_foresee_47 (fun s4 es4 => ?_)
    have k := k s4 es4
    refine Z_aload_n hC dX4_foresee_50 rfl rfl ?_
    refine Z_get (o := 18) (c := 4) (k := 3) (v := .ref (ad 4 0)) hC rfl zs_4 lkX4_21 rfl dX4_foresee_51 ?_
    obtain ⟨s5, h6, k⟩ := k
    refine Z_callV (As := []) (rest := []) hC h6 cvX4_45 ⟨0, rfl, zs_0, _, rfl, rfl⟩ rfl rfl (Nat.le_of_ble_eq_true rfl) dX4_foresee_54 ?_
    refine Z_aload_n hC dX4_foresee_57 rfl rfl ?_
    refine Z_get (o := 18) (c := 4) (k := 2) (v := .ref (ad 18 3)) hC rfl zs_4 lkX4_15 rfl dX4_foresee_58 ?_
    refine Z_iload hC dX4_foresee_61 rfl ?_
    refine Z_aload_n hC dX4_foresee_63 rfl rfl ?_
    refine Z_get (o := 18) (c := 4) (k := 3) (v := .ref (ad 4 0)) hC rfl zs_4 lkX4_21 rfl dX4_foresee_64 ?_
    refine Z_get (o := 4) (c := 0) (k := 10) (v := .int ((s5 4).1 10)) hC rfl zs_0 lkX4_39 rfl dX4_foresee_67 ?_
    refine Z_iload hC dX4_foresee_70 rfl ?_
    refine Z_isub hC dX4_foresee_72 ?_
    obtain ⟨h7, k⟩ := k
    refine Z_iast2 (o := 18) (k := 2) hC (zis_of rfl rfl) h7 dX4_foresee_73 (fun s8 es8 => ?_)
    have k := k s8 es8
    refine Z_aload_n hC dX4_foresee_74 rfl rfl ?_
    obtain ⟨s9, h10, k⟩ := k
    refine Z_callV (As := []) (rest := []) hC h10 cvX4_45 ⟨0, ho2, zs_0, _, rfl, rfl⟩ rfl rfl (Nat.le_of_ble_eq_true rfl) dX4_foresee_75 ?_
    refine Z_aload_n hC dX4_foresee_78 rfl rfl ?_
    refine Z_get (o := 18) (c := 4) (k := 1) (v := .ref (ad 18 2)) hC rfl zs_4 lkX4_9 rfl dX4_foresee_79 ?_
    refine Z_iload hC dX4_foresee_82 rfl ?_
    refine Z_aload_n hC dX4_foresee_84 rfl rfl ?_
    refine Z_get (o := o2) (c := 0) (k := 10) (v := .int ((s9 o2).1 10)) hC ho2 zs_0 lkX4_39 rfl dX4_foresee_85 ?_
    refine Z_iload hC dX4_foresee_88 rfl ?_
    refine Z_isub hC dX4_foresee_90 ?_
    obtain ⟨h11, k⟩ := k
    refine Z_iast2 (o := 18) (k := 1) hC (zis_of rfl rfl) h11 dX4_foresee_91 (fun s12 es12 => ?_)
    have k := k s12 es12
    refine Z_iinc (v := x4 + 1) (V2 := [(4, .int (x4 + 1)), (5, .int ((s o2).1 10)), (0, .ref (ad 18 0)), (2, .ref (ad o2 0))]) hC dX4_foresee_92 rfl rfl (by decide) rfl ?_
    refine Z_goto (tgt := 18) hC dX4_foresee_95 (by decide) ?_
    exact Z_pick [2, 3, 0] rfl k
set_option maxRecDepth 100000 in
set_option maxHeartbeats 4000000 in
theorem bX4_weightWithin_0 {x1 : Int32} {x2 : Int32} {C : ZC} {X : Option Value} {Y : ZS} {s : ZS} (hC : Zok ad D ia C d cX4_weightWithin 11 RX4 (some .long)) (k : Z l ad D ia C X Y 5 [(0, .ref (ad 18 0)), (1, .int x1), (2, .int x2), (3, .long 0), (5, .int 0)] [] s) : Z l ad D ia C X Y 0 [(0, .ref (ad 18 0)), (1, .int x1), (2, .int x2)] [] s := by
  refine Z_lconst (v := 0) hC dX4_weightWithin_0 rfl ?_
  refine Z_lstore_n (V2 := [(3, .long 0), (0, .ref (ad 18 0)), (1, .int x1), (2, .int x2)]) hC dX4_weightWithin_1 rfl (by decide) rfl ?_
  refine Z_iconst (v := 0) hC dX4_weightWithin_2 rfl ?_
  refine Z_istore (V2 := [(5, .int 0), (3, .long 0), (0, .ref (ad 18 0)), (1, .int x1), (2, .int x2)]) hC dX4_weightWithin_3 (by decide) rfl ?_
  exact Z_pick [2, 3, 4, 1, 0] rfl k
theorem eX4_weightWithin {x1 : Int32} {x2 : Int32} {X : Option Value} {Y : ZS} {s : ZS} (k : ∀ C : ZC, Zok ad D ia C d cX4_weightWithin 11 RX4 (some .long) → Z l ad D ia C X Y 5 [(0, .ref (ad 18 0)), (1, .int x1), (2, .int x2), (3, .long 0), (5, .int 0)] [] s) : Ev l ad D ia d mX4_weightWithin [.ref (ad 18 0), .int x1, .int x2] s X Y :=
  Ev.start (by decide +kernel) (Nat.le_of_ble_eq_true rfl) (fun C hC => bX4_weightWithin_0  hC (k C hC))
set_option maxRecDepth 100000 in
set_option maxHeartbeats 4000000 in
theorem bX4_weightWithin_5 {x1 : Int32} {x2 : Int32} {y3 : Int64} {x5 : Int32} {C : ZC} {X : Option Value} {Y : ZS} {s : ZS} (hC : Zok ad D ia C d cX4_weightWithin 11 RX4 (some .long)) (k : (((1 <<< (((s 18).1 0) &&& 31)) ≤ x5 → (X = some (.long y3) ∧ Y = s)) ∧ (¬ (1 <<< (((s 18).1 0) &&& 31)) ≤ x5 → Z l ad D ia C X Y 25 [(0, .ref (ad 18 0)), (1, .int x1), (2, .int x2), (3, .long y3), (5, .int x5), (6, .int 0), (7, .long 1), (9, .int 0)] [] s))) : Z l ad D ia C X Y 5 [(0, .ref (ad 18 0)), (1, .int x1), (2, .int x2), (3, .long y3), (5, .int x5)] [] s := by
  refine Z_iload hC dX4_weightWithin_5 rfl ?_
  refine Z_iconst (v := 1) hC dX4_weightWithin_7 rfl ?_
  refine Z_aload_n hC dX4_weightWithin_8 rfl rfl ?_
  refine Z_get (o := 18) (c := 4) (k := 0) (v := .int ((s 18).1 0)) hC rfl zs_4 lkX4_31 rfl dX4_weightWithin_9 ?_
  refine Z_ishl hC dX4_weightWithin_12 ?_
  refine Z_icmp_ge (tgt := 121) hC dX4_weightWithin_13 (by decide) (fun c1 => ?_) (fun c1 => ?_)
  · have k := k.1 c1
    refine Z_lload_n hC dX4_weightWithin_121 rfl rfl ?_
    exact Z_lret hC dX4_weightWithin_122 k.1 k.2
  · have k := k.2 c1
    refine Z_iconst (v := 0) hC dX4_weightWithin_16 rfl ?_
    refine Z_istore (V2 := [(6, .int 0), (0, .ref (ad 18 0)), (1, .int x1), (2, .int x2), (3, .long y3), (5, .int x5)]) hC dX4_weightWithin_17 (by decide) rfl ?_
    refine Z_lconst (v := 1) hC dX4_weightWithin_19 rfl ?_
    refine Z_lstore (V2 := [(7, .long 1), (6, .int 0), (0, .ref (ad 18 0)), (1, .int x1), (2, .int x2), (3, .long y3), (5, .int x5)]) hC dX4_weightWithin_20 (by decide) rfl ?_
    refine Z_iconst (v := 0) hC dX4_weightWithin_22 rfl ?_
    refine Z_istore (V2 := [(9, .int 0), (7, .long 1), (6, .int 0), (0, .ref (ad 18 0)), (1, .int x1), (2, .int x2), (3, .long y3), (5, .int x5)]) hC dX4_weightWithin_23 (by decide) rfl ?_
    exact Z_pick [3, 4, 5, 6, 7, 2, 1, 0] rfl k
set_option maxRecDepth 100000 in
set_option maxHeartbeats 4000000 in
theorem bX4_weightWithin_25 {x1 : Int32} {x2 : Int32} {y3 : Int64} {x5 : Int32} {x6 : Int32} {y7 : Int64} {x9 : Int32} {C : ZC} {X : Option Value} {Y : ZS} {s : ZS} (hC : Zok ad D ia C d cX4_weightWithin 11 RX4 (some .long)) (k : ((((s 18).1 0) ≤ x9 → ((x2 < x6 → Z l ad D ia C X Y 5 [(0, .ref (ad 18 0)), (1, .int x1), (2, .int x2), (3, .long y3), (5, .int (x5 + 1))] [] s) ∧ (¬ x2 < x6 → Z l ad D ia C X Y 5 [(0, .ref (ad 18 0)), (1, .int x1), (2, .int x2), (3, .long (y3 + y7)), (5, .int (x5 + 1))] [] s))) ∧ (¬ ((s 18).1 0) ≤ x9 → ((((x5 >>> (x9 &&& 31)) &&& 1) = 0 → Z l ad D ia C X Y 49 [(0, .ref (ad 18 0)), (1, .int x1), (2, .int x2), (3, .long y3), (5, .int x5), (6, .int x6), (7, .long y7), (9, .int x9)] [.int 0] s) ∧ (¬ ((x5 >>> (x9 &&& 31)) &&& 1) = 0 → Z l ad D ia C X Y 49 [(0, .ref (ad 18 0)), (1, .int x1), (2, .int x2), (3, .long y3), (5, .int x5), (6, .int x6), (7, .long y7), (9, .int x9)] [.int 1] s))))) : Z l ad D ia C X Y 25 [(0, .ref (ad 18 0)), (1, .int x1), (2, .int x2), (3, .long y3), (5, .int x5), (6, .int x6), (7, .long y7), (9, .int x9)] [] s := by
  refine Z_iload hC dX4_weightWithin_25 rfl ?_
  refine Z_aload_n hC dX4_weightWithin_27 rfl rfl ?_
  refine Z_get (o := 18) (c := 4) (k := 0) (v := .int ((s 18).1 0)) hC rfl zs_4 lkX4_31 rfl dX4_weightWithin_28 ?_
  refine Z_icmp_ge (tgt := 104) hC dX4_weightWithin_31 (by decide) (fun c1 => ?_) (fun c1 => ?_)
  · have k := k.1 c1
    refine Z_iload hC dX4_weightWithin_104 rfl ?_
    refine Z_iload_n hC dX4_weightWithin_106 rfl rfl ?_
    refine Z_icmp_gt (tgt := 115) hC dX4_weightWithin_107 (by decide) (fun c2 => ?_) (fun c2 => ?_)
    · have k := k.1 c2
      refine Z_iinc (v := x5 + 1) (V2 := [(5, .int (x5 + 1)), (0, .ref (ad 18 0)), (1, .int x1), (2, .int x2), (3, .long y3), (6, .int x6), (7, .long y7), (9, .int x9)]) hC dX4_weightWithin_115 rfl rfl (by decide) rfl ?_
      refine Z_goto (tgt := 5) hC dX4_weightWithin_118 (by decide) ?_
      exact Z_pick [1, 2, 3, 4, 0] rfl k
    · have k := k.2 c2
      refine Z_lload_n hC dX4_weightWithin_110 rfl rfl ?_
      refine Z_lload hC dX4_weightWithin_111 rfl ?_
      refine Z_ladd hC dX4_weightWithin_113 ?_
      refine Z_lstore_n (V2 := [(3, .long (y3 + y7)), (0, .ref (ad 18 0)), (1, .int x1), (2, .int x2), (5, .int x5), (6, .int x6), (7, .long y7), (9, .int x9)]) hC dX4_weightWithin_114 rfl (by decide) rfl ?_
      refine Z_iinc (v := x5 + 1) (V2 := [(5, .int (x5 + 1)), (3, .long (y3 + y7)), (0, .ref (ad 18 0)), (1, .int x1), (2, .int x2), (6, .int x6), (7, .long y7), (9, .int x9)]) hC dX4_weightWithin_115 rfl rfl (by decide) rfl ?_
      refine Z_goto (tgt := 5) hC dX4_weightWithin_118 (by decide) ?_
      exact Z_pick [2, 3, 4, 1, 0] rfl k
  · have k := k.2 c1
    refine Z_iload hC dX4_weightWithin_34 rfl ?_
    refine Z_iload hC dX4_weightWithin_36 rfl ?_
    refine Z_ishr hC dX4_weightWithin_38 ?_
    refine Z_iconst (v := 1) hC dX4_weightWithin_39 rfl ?_
    refine Z_iand hC dX4_weightWithin_40 ?_
    refine Z_if_eq (tgt := 48) hC dX4_weightWithin_41 (by decide) (fun c3 => ?_) (fun c3 => ?_)
    · have k := k.1 c3
      refine Z_iconst (v := 0) hC dX4_weightWithin_48 rfl ?_
      exact k
    · have k := k.2 c3
      refine Z_iconst (v := 1) hC dX4_weightWithin_44 rfl ?_
      refine Z_goto (tgt := 49) hC dX4_weightWithin_45 (by decide) ?_
      exact k
set_option maxRecDepth 100000 in
set_option maxHeartbeats 4000000 in
theorem bX4_weightWithin_49 {x1 : Int32} {x2 : Int32} {y3 : Int64} {x5 : Int32} {x6 : Int32} {y7 : Int64} {x9 : Int32} {t0 : Int32} {C : ZC} {X : Option Value} {Y : ZS} {s : ZS} (hC : Zok ad D ia C d cX4_weightWithin 11 RX4 (some .long)) (k : ((t0 = 0 → (vp_in x9 8 ∧ ((t0 = 0 → Z l ad D ia C X Y 25 [(0, .ref (ad 18 0)), (1, .int x1), (2, .int x2), (3, .long y3), (5, .int x5), (6, .int (x6 + ((s 18).2.2 1 x9.toNatClampNeg))), (7, .long (y7 * ((10 - x1).toInt64))), (9, .int (x9 + 1))] [] s) ∧ (¬ t0 = 0 → Z l ad D ia C X Y 25 [(0, .ref (ad 18 0)), (1, .int x1), (2, .int x2), (3, .long y3), (5, .int x5), (6, .int (x6 + ((s 18).2.2 1 x9.toNatClampNeg))), (7, .long (y7 * x1.toInt64)), (9, .int (x9 + 1))] [] s)))) ∧ (¬ t0 = 0 → (vp_in x9 8 ∧ ((t0 = 0 → Z l ad D ia C X Y 25 [(0, .ref (ad 18 0)), (1, .int x1), (2, .int x2), (3, .long y3), (5, .int x5), (6, .int (x6 + ((s 18).2.2 2 x9.toNatClampNeg))), (7, .long (y7 * ((10 - x1).toInt64))), (9, .int (x9 + 1))] [] s) ∧ (¬ t0 = 0 → Z l ad D ia C X Y 25 [(0, .ref (ad 18 0)), (1, .int x1), (2, .int x2), (3, .long y3), (5, .int x5), (6, .int (x6 + ((s 18).2.2 2 x9.toNatClampNeg))), (7, .long (y7 * x1.toInt64)), (9, .int (x9 + 1))] [] s)))))) : Z l ad D ia C X Y 49 [(0, .ref (ad 18 0)), (1, .int x1), (2, .int x2), (3, .long y3), (5, .int x5), (6, .int x6), (7, .long y7), (9, .int x9)] [.int t0] s := by
  refine Z_istore (V2 := [(10, .int t0), (0, .ref (ad 18 0)), (1, .int x1), (2, .int x2), (3, .long y3), (5, .int x5), (6, .int x6), (7, .long y7), (9, .int x9)]) hC dX4_weightWithin_49 (by decide) rfl ?_
  refine Z_iload hC dX4_weightWithin_51 rfl ?_
  refine Z_iload hC dX4_weightWithin_53 rfl ?_
  refine Z_if_eq (tgt := 68) hC dX4_weightWithin_55 (by decide) (fun c1 => ?_) (fun c1 => ?_)
  · have k := k.1 c1
    refine Z_aload_n hC dX4_weightWithin_68 rfl rfl ?_
    refine Z_get (o := 18) (c := 4) (k := 1) (v := .ref (ad 18 2)) hC rfl zs_4 lkX4_9 rfl dX4_weightWithin_69 ?_
    refine Z_iload hC dX4_weightWithin_72 rfl ?_
    obtain ⟨h2, k⟩ := k
    refine Z_iald (o := 18) (k := 1) hC (zis_of rfl rfl) h2 dX4_weightWithin_74 ?_
    refine Z_iadd hC dX4_weightWithin_75 ?_
    refine Z_istore (V2 := [(6, .int (x6 + ((s 18).2.2 1 x9.toNatClampNeg))), (10, .int t0), (0, .ref (ad 18 0)), (1, .int x1), (2, .int x2), (3, .long y3), (5, .int x5), (7, .long y7), (9, .int x9)]) hC dX4_weightWithin_76 (by decide) rfl ?_
    refine Z_lload hC dX4_weightWithin_78 rfl ?_
    refine Z_iload hC dX4_weightWithin_80 rfl ?_
    refine Z_if_eq (tgt := 90) hC dX4_weightWithin_82 (by decide) (fun c3 => ?_) (fun c3 => ?_)
    · have k := k.1 c3
      refine Z_bipush (v := 10) hC dX4_weightWithin_90 rfl ?_
      refine Z_iload_n hC dX4_weightWithin_92 rfl rfl ?_
      refine Z_isub hC dX4_weightWithin_93 ?_
      refine Z_i2l hC dX4_weightWithin_94 ?_
      refine Z_lmul hC dX4_weightWithin_95 ?_
      refine Z_lstore (V2 := [(7, .long (y7 * ((10 - x1).toInt64))), (6, .int (x6 + ((s 18).2.2 1 x9.toNatClampNeg))), (10, .int t0), (0, .ref (ad 18 0)), (1, .int x1), (2, .int x2), (3, .long y3), (5, .int x5), (9, .int x9)]) hC dX4_weightWithin_96 (by decide) rfl ?_
      refine Z_iinc (v := x9 + 1) (V2 := [(9, .int (x9 + 1)), (7, .long (y7 * ((10 - x1).toInt64))), (6, .int (x6 + ((s 18).2.2 1 x9.toNatClampNeg))), (10, .int t0), (0, .ref (ad 18 0)), (1, .int x1), (2, .int x2), (3, .long y3), (5, .int x5)]) hC dX4_weightWithin_98 rfl rfl (by decide) rfl ?_
      refine Z_goto (tgt := 25) hC dX4_weightWithin_101 (by decide) ?_
      exact Z_pick [4, 5, 6, 7, 8, 2, 1, 0] rfl k
    · have k := k.2 c3
      refine Z_iload_n hC dX4_weightWithin_85 rfl rfl ?_
      refine Z_i2l hC dX4_weightWithin_86 ?_
      refine Z_goto (tgt := 95) hC dX4_weightWithin_87 (by decide) ?_
      refine Z_lmul hC dX4_weightWithin_95 ?_
      refine Z_lstore (V2 := [(7, .long (y7 * x1.toInt64)), (6, .int (x6 + ((s 18).2.2 1 x9.toNatClampNeg))), (10, .int t0), (0, .ref (ad 18 0)), (1, .int x1), (2, .int x2), (3, .long y3), (5, .int x5), (9, .int x9)]) hC dX4_weightWithin_96 (by decide) rfl ?_
      refine Z_iinc (v := x9 + 1) (V2 := [(9, .int (x9 + 1)), (7, .long (y7 * x1.toInt64)), (6, .int (x6 + ((s 18).2.2 1 x9.toNatClampNeg))), (10, .int t0), (0, .ref (ad 18 0)), (1, .int x1), (2, .int x2), (3, .long y3), (5, .int x5)]) hC dX4_weightWithin_98 rfl rfl (by decide) rfl ?_
      refine Z_goto (tgt := 25) hC dX4_weightWithin_101 (by decide) ?_
      exact Z_pick [4, 5, 6, 7, 8, 2, 1, 0] rfl k
  · have k := k.2 c1
    refine Z_aload_n hC dX4_weightWithin_58 rfl rfl ?_
    refine Z_get (o := 18) (c := 4) (k := 2) (v := .ref (ad 18 3)) hC rfl zs_4 lkX4_15 rfl dX4_weightWithin_59 ?_
    refine Z_iload hC dX4_weightWithin_62 rfl ?_
    obtain ⟨h4, k⟩ := k
    refine Z_iald (o := 18) (k := 2) hC (zis_of rfl rfl) h4 dX4_weightWithin_64 ?_
    refine Z_goto (tgt := 75) hC dX4_weightWithin_65 (by decide) ?_
    refine Z_iadd hC dX4_weightWithin_75 ?_
    refine Z_istore (V2 := [(6, .int (x6 + ((s 18).2.2 2 x9.toNatClampNeg))), (10, .int t0), (0, .ref (ad 18 0)), (1, .int x1), (2, .int x2), (3, .long y3), (5, .int x5), (7, .long y7), (9, .int x9)]) hC dX4_weightWithin_76 (by decide) rfl ?_
    refine Z_lload hC dX4_weightWithin_78 rfl ?_
    refine Z_iload hC dX4_weightWithin_80 rfl ?_
    refine Z_if_eq (tgt := 90) hC dX4_weightWithin_82 (by decide) (fun c5 => ?_) (fun c5 => ?_)
    · have k := k.1 c5
      refine Z_bipush (v := 10) hC dX4_weightWithin_90 rfl ?_
      refine Z_iload_n hC dX4_weightWithin_92 rfl rfl ?_
      refine Z_isub hC dX4_weightWithin_93 ?_
      refine Z_i2l hC dX4_weightWithin_94 ?_
      refine Z_lmul hC dX4_weightWithin_95 ?_
      refine Z_lstore (V2 := [(7, .long (y7 * ((10 - x1).toInt64))), (6, .int (x6 + ((s 18).2.2 2 x9.toNatClampNeg))), (10, .int t0), (0, .ref (ad 18 0)), (1, .int x1), (2, .int x2), (3, .long y3), (5, .int x5), (9, .int x9)]) hC dX4_weightWithin_96 (by decide) rfl ?_
      refine Z_iinc (v := x9 + 1) (V2 := [(9, .int (x9 + 1)), (7, .long (y7 * ((10 - x1).toInt64))), (6, .int (x6 + ((s 18).2.2 2 x9.toNatClampNeg))), (10, .int t0), (0, .ref (ad 18 0)), (1, .int x1), (2, .int x2), (3, .long y3), (5, .int x5)]) hC dX4_weightWithin_98 rfl rfl (by decide) rfl ?_
      refine Z_goto (tgt := 25) hC dX4_weightWithin_101 (by decide) ?_
      exact Z_pick [4, 5, 6, 7, 8, 2, 1, 0] rfl k
    · have k := k.2 c5
      refine Z_iload_n hC dX4_weightWithin_85 rfl rfl ?_
      refine Z_i2l hC dX4_weightWithin_86 ?_
      refine Z_goto (tgt := 95) hC dX4_weightWithin_87 (by decide) ?_
      refine Z_lmul hC dX4_weightWithin_95 ?_
      refine Z_lstore (V2 := [(7, .long (y7 * x1.toInt64)), (6, .int (x6 + ((s 18).2.2 2 x9.toNatClampNeg))), (10, .int t0), (0, .ref (ad 18 0)), (1, .int x1), (2, .int x2), (3, .long y3), (5, .int x5), (9, .int x9)]) hC dX4_weightWithin_96 (by decide) rfl ?_
      refine Z_iinc (v := x9 + 1) (V2 := [(9, .int (x9 + 1)), (7, .long (y7 * x1.toInt64)), (6, .int (x6 + ((s 18).2.2 2 x9.toNatClampNeg))), (10, .int t0), (0, .ref (ad 18 0)), (1, .int x1), (2, .int x2), (3, .long y3), (5, .int x5)]) hC dX4_weightWithin_98 rfl rfl (by decide) rfl ?_
      refine Z_goto (tgt := 25) hC dX4_weightWithin_101 (by decide) ?_
      exact Z_pick [4, 5, 6, 7, 8, 2, 1, 0] rfl k
set_option maxRecDepth 100000 in
set_option maxHeartbeats 4000000 in
theorem bX4_tenTimesMean_0 {x1 : Int32} {C : ZC} {X : Option Value} {Y : ZS} {s : ZS} (hC : Zok ad D ia C d cX4_tenTimesMean 5 RX4 (some .long)) (k : Z l ad D ia C X Y 5 [(0, .ref (ad 18 0)), (1, .int x1), (2, .long 0), (4, .int 0)] [] s) : Z l ad D ia C X Y 0 [(0, .ref (ad 18 0)), (1, .int x1)] [] s := by
  refine Z_lconst (v := 0) hC dX4_tenTimesMean_0 rfl ?_
  refine Z_lstore_n (V2 := [(2, .long 0), (0, .ref (ad 18 0)), (1, .int x1)]) hC dX4_tenTimesMean_1 rfl (by decide) rfl ?_
  refine Z_iconst (v := 0) hC dX4_tenTimesMean_2 rfl ?_
  refine Z_istore (V2 := [(4, .int 0), (2, .long 0), (0, .ref (ad 18 0)), (1, .int x1)]) hC dX4_tenTimesMean_3 (by decide) rfl ?_
  exact Z_pick [2, 3, 1, 0] rfl k
theorem eX4_tenTimesMean {x1 : Int32} {X : Option Value} {Y : ZS} {s : ZS} (k : ∀ C : ZC, Zok ad D ia C d cX4_tenTimesMean 5 RX4 (some .long) → Z l ad D ia C X Y 5 [(0, .ref (ad 18 0)), (1, .int x1), (2, .long 0), (4, .int 0)] [] s) : Ev l ad D ia d mX4_tenTimesMean [.ref (ad 18 0), .int x1] s X Y :=
  Ev.start (by decide +kernel) (Nat.le_of_ble_eq_true rfl) (fun C hC => bX4_tenTimesMean_0  hC (k C hC))
set_option maxRecDepth 100000 in
set_option maxHeartbeats 4000000 in
theorem bX4_tenTimesMean_5 {x1 : Int32} {y2 : Int64} {x4 : Int32} {C : ZC} {X : Option Value} {Y : ZS} {s : ZS} (hC : Zok ad D ia C d cX4_tenTimesMean 5 RX4 (some .long)) (k : ((((s 18).1 0) ≤ x4 → (X = some (.long y2) ∧ Y = s)) ∧ (¬ ((s 18).1 0) ≤ x4 → (vp_in x4 8 ∧ (vp_in x4 8 ∧ Z l ad D ia C X Y 5 [(0, .ref (ad 18 0)), (1, .int x1), (2, .long (y2 + ((x1.toInt64 * (((s 18).2.2 2 x4.toNatClampNeg).toInt64)) + (((10 - x1).toInt64) * (((s 18).2.2 1 x4.toNatClampNeg).toInt64))))), (4, .int (x4 + 1))] [] s))))) : Z l ad D ia C X Y 5 [(0, .ref (ad 18 0)), (1, .int x1), (2, .long y2), (4, .int x4)] [] s := by
  refine Z_iload hC dX4_tenTimesMean_5 rfl ?_
  refine Z_aload_n hC dX4_tenTimesMean_7 rfl rfl ?_
  refine Z_get (o := 18) (c := 4) (k := 0) (v := .int ((s 18).1 0)) hC rfl zs_4 lkX4_31 rfl dX4_tenTimesMean_8 ?_
  refine Z_icmp_ge (tgt := 49) hC dX4_tenTimesMean_11 (by decide) (fun c1 => ?_) (fun c1 => ?_)
  · have k := k.1 c1
    refine Z_lload_n hC dX4_tenTimesMean_49 rfl rfl ?_
    exact Z_lret hC dX4_tenTimesMean_50 k.1 k.2
  · have k := k.2 c1
    refine Z_lload_n hC dX4_tenTimesMean_14 rfl rfl ?_
    refine Z_iload_n hC dX4_tenTimesMean_15 rfl rfl ?_
    refine Z_i2l hC dX4_tenTimesMean_16 ?_
    refine Z_aload_n hC dX4_tenTimesMean_17 rfl rfl ?_
    refine Z_get (o := 18) (c := 4) (k := 2) (v := .ref (ad 18 3)) hC rfl zs_4 lkX4_15 rfl dX4_tenTimesMean_18 ?_
    refine Z_iload hC dX4_tenTimesMean_21 rfl ?_
    obtain ⟨h2, k⟩ := k
    refine Z_iald (o := 18) (k := 2) hC (zis_of rfl rfl) h2 dX4_tenTimesMean_23 ?_
    refine Z_i2l hC dX4_tenTimesMean_24 ?_
    refine Z_lmul hC dX4_tenTimesMean_25 ?_
    refine Z_bipush (v := 10) hC dX4_tenTimesMean_26 rfl ?_
    refine Z_iload_n hC dX4_tenTimesMean_28 rfl rfl ?_
    refine Z_isub hC dX4_tenTimesMean_29 ?_
    refine Z_i2l hC dX4_tenTimesMean_30 ?_
    refine Z_aload_n hC dX4_tenTimesMean_31 rfl rfl ?_
    refine Z_get (o := 18) (c := 4) (k := 1) (v := .ref (ad 18 2)) hC rfl zs_4 lkX4_9 rfl dX4_tenTimesMean_32 ?_
    refine Z_iload hC dX4_tenTimesMean_35 rfl ?_
    obtain ⟨h3, k⟩ := k
    refine Z_iald (o := 18) (k := 1) hC (zis_of rfl rfl) h3 dX4_tenTimesMean_37 ?_
    refine Z_i2l hC dX4_tenTimesMean_38 ?_
    refine Z_lmul hC dX4_tenTimesMean_39 ?_
    refine Z_ladd hC dX4_tenTimesMean_40 ?_
    refine Z_ladd hC dX4_tenTimesMean_41 ?_
    refine Z_lstore_n (V2 := [(2, .long (y2 + ((x1.toInt64 * (((s 18).2.2 2 x4.toNatClampNeg).toInt64)) + (((10 - x1).toInt64) * (((s 18).2.2 1 x4.toNatClampNeg).toInt64))))), (0, .ref (ad 18 0)), (1, .int x1), (4, .int x4)]) hC dX4_tenTimesMean_42 rfl (by decide) rfl ?_
    refine Z_iinc (v := x4 + 1) (V2 := [(4, .int (x4 + 1)), (2, .long (y2 + ((x1.toInt64 * (((s 18).2.2 2 x4.toNatClampNeg).toInt64)) + (((10 - x1).toInt64) * (((s 18).2.2 1 x4.toNatClampNeg).toInt64))))), (0, .ref (ad 18 0)), (1, .int x1)]) hC dX4_tenTimesMean_43 rfl rfl (by decide) rfl ?_
    refine Z_goto (tgt := 5) hC dX4_tenTimesMean_46 (by decide) ?_
    exact Z_pick [2, 3, 1, 0] rfl k
set_option maxRecDepth 100000 in
set_option maxHeartbeats 4000000 in
theorem bX5_renew_0 {o : Nat} (ho : zcls o = 5) {x1 : Int32} {x2 : Int32} {C : ZC} {X : Option Value} {Y : ZS} {s : ZS} (hC : Zok ad D ia C d cX5_renew 4 RX5 none) (k : (∀ s1 : ZS, s1 = stI s o 0 x1 → (∀ s2 : ZS, s2 = stI s1 o 1 x2 → Z l ad D ia C X Y 12 [(0, .ref (ad o 0)), (3, .int 0)] [] s2))) : Z l ad D ia C X Y 0 [(0, .ref (ad o 0)), (1, .int x1), (2, .int x2)] [] s := by
  refine Z_aload_n hC dX5_renew_0 rfl rfl ?_
  refine Z_iload_n hC dX5_renew_1 rfl rfl ?_
  refine Z_putI (o := o) (k := 0) hC ho zs_5 pkX5_9 rfl rfl (hsX5_0 _ _ _) dX5_renew_2 (fun s1 es1 => ?_)
  have k := k s1 es1
  refine Z_aload_n hC dX5_renew_5 rfl rfl ?_
  refine Z_iload_n hC dX5_renew_6 rfl rfl ?_
  refine Z_putI (o := o) (k := 1) hC ho zs_5 pkX5_19 rfl rfl (hsX5_1 _ _ _) dX5_renew_7 (fun s2 es2 => ?_)
  have k := k s2 es2
  refine Z_iconst (v := 0) hC dX5_renew_10 rfl ?_
  refine Z_istore_n (V2 := [(3, .int 0), (0, .ref (ad o 0)), (1, .int x1), (2, .int x2)]) hC dX5_renew_11 rfl (by decide) rfl ?_
  exact Z_pick [1, 0] rfl k
theorem eX5_renew {o : Nat} (ho : zcls o = 5) {x1 : Int32} {x2 : Int32} {X : Option Value} {Y : ZS} {s : ZS} (k : ∀ C : ZC, Zok ad D ia C d cX5_renew 4 RX5 none → (∀ s1 : ZS, s1 = stI s o 0 x1 → (∀ s2 : ZS, s2 = stI s1 o 1 x2 → Z l ad D ia C X Y 12 [(0, .ref (ad o 0)), (3, .int 0)] [] s2))) : Ev l ad D ia d mX5_renew [.ref (ad o 0), .int x1, .int x2] s X Y :=
  Ev.start (by decide +kernel) (Nat.le_of_ble_eq_true rfl) (fun C hC => bX5_renew_0 ho hC (k C hC))
set_option maxRecDepth 100000 in
set_option maxHeartbeats 4000000 in
theorem bX5_renew_12 {o : Nat} (ho : zcls o = 5) {x3 : Int32} {C : ZC} {X : Option Value} {Y : ZS} {s : ZS} (hC : Zok ad D ia C d cX5_renew 4 RX5 none) (k : ((40 ≤ x3 → (X = none ∧ Y = s)) ∧ (¬ 40 ≤ x3 → (vp_in x3 40 ∧ (∀ s3 : ZS, s3 = stA s o 2 x3.toNatClampNeg 0 → Z l ad D ia C X Y 12 [(0, .ref (ad o 0)), (3, .int (x3 + 1))] [] s3))))) : Z l ad D ia C X Y 12 [(0, .ref (ad o 0)), (3, .int x3)] [] s := by
  refine Z_iload_n hC dX5_renew_12 rfl rfl ?_
  refine Z_bipush (v := 40) hC dX5_renew_13 rfl ?_
  refine Z_icmp_ge (tgt := 31) hC dX5_renew_15 (by decide) (fun c1 => ?_) (fun c1 => ?_)
  · have k := k.1 c1
    exact Z_vret hC dX5_renew_31 k.1 k.2
  · have k := k.2 c1
    refine Z_aload_n hC dX5_renew_18 rfl rfl ?_
    refine Z_get (o := o) (c := 5) (k := 2) (v := .ref (ad o 3)) hC ho zs_5 lkX5_15 rfl dX5_renew_19 ?_
    refine Z_iload_n hC dX5_renew_22 rfl rfl ?_
    refine Z_iconst (v := 0) hC dX5_renew_23 rfl ?_
    obtain ⟨h2, k⟩ := k
    refine Z_iast2 (o := o) (k := 2) hC (zis_of ho rfl) h2 dX5_renew_24 (fun s3 es3 => ?_)
    have k := k s3 es3
    refine Z_iinc (v := x3 + 1) (V2 := [(3, .int (x3 + 1)), (0, .ref (ad o 0))]) hC dX5_renew_25 rfl rfl (by decide) rfl ?_
    refine Z_goto (tgt := 12) hC dX5_renew_28 (by decide) ?_
    exact Z_pick [1, 0] rfl k
set_option maxRecDepth 100000 in
set_option maxHeartbeats 4000000 in
theorem bX5_faultAt_0 {o : Nat} (ho : zcls o = 5) {x1 : Int32} {x2 : Int32} {C : ZC} {X : Option Value} {Y : ZS} {s : ZS} (hC : Zok ad D ia C (d + 1) cX5_faultAt 3 RX5 (some .int)) (k : ((¬ ((s o).1 0) = ((-4)) → ((((s o).1 0) = x1 → (∃ (r4 : Int32) (s3 : ZS), Ev l ad D ia d mX8_outside [.int x2, .int 0, .int (((s o).1 1) - 1)] s (some (.int r4)) s3 ∧ ((r4 = 0 → (X = some (.int 0) ∧ Y = s3)) ∧ (¬ r4 = 0 → (X = some (.int 2) ∧ Y = s3))))) ∧ (¬ ((s o).1 0) = x1 → (X = some (.int 3) ∧ Y = s)))) ∧ (((s o).1 0) = ((-4)) → (X = some (.int 1) ∧ Y = s)))) : Z l ad D ia C X Y 0 [(0, .ref (ad o 0)), (1, .int x1), (2, .int x2)] [] s := by
  refine Z_aload_n hC dX5_faultAt_0 rfl rfl ?_
  refine Z_get (o := o) (c := 5) (k := 0) (v := .int ((s o).1 0)) hC ho zs_5 lkX5_9 rfl dX5_faultAt_1 ?_
  refine Z_bipush (v := (-4)) hC dX5_faultAt_4 rfl ?_
  refine Z_icmp_ne (tgt := 11) hC dX5_faultAt_6 (by decide) (fun c1 => ?_) (fun c1 => ?_)
  · have k := k.1 c1
    refine Z_aload_n hC dX5_faultAt_11 rfl rfl ?_
    refine Z_get (o := o) (c := 5) (k := 0) (v := .int ((s o).1 0)) hC ho zs_5 lkX5_9 rfl dX5_faultAt_12 ?_
    refine Z_iload_n hC dX5_faultAt_15 rfl rfl ?_
    refine Z_icmp_eq (tgt := 21) hC dX5_faultAt_16 (by decide) (fun c2 => ?_) (fun c2 => ?_)
    · have k := k.1 c2
      refine Z_iload_n hC dX5_faultAt_21 rfl rfl ?_
      refine Z_iconst (v := 0) hC dX5_faultAt_22 rfl ?_
      refine Z_aload_n hC dX5_faultAt_23 rfl rfl ?_
      refine Z_get (o := o) (c := 5) (k := 1) (v := .int ((s o).1 1)) hC ho zs_5 lkX5_19 rfl dX5_faultAt_24 ?_
      refine Z_iconst (v := 1) hC dX5_faultAt_27 rfl ?_
      refine Z_isub hC dX5_faultAt_28 ?_
      obtain ⟨r4, s3, h5, k⟩ := k
      refine Z_callN (As := [.int x2, .int 0, .int (((s o).1 1) - 1)]) (rest := []) hC h5 csX5_22 rfl rfl (Nat.le_of_ble_eq_true rfl) dX5_faultAt_29 ?_
      refine Z_if_eq (tgt := 39) hC dX5_faultAt_32 (by decide) (fun c6 => ?_) (fun c6 => ?_)
      · have k := k.1 c6
        refine Z_iconst (v := 0) hC dX5_faultAt_39 rfl ?_
        exact Z_iret hC dX5_faultAt_40 k.1 k.2
      · have k := k.2 c6
        refine Z_iconst (v := 2) hC dX5_faultAt_35 rfl ?_
        refine Z_goto (tgt := 40) hC dX5_faultAt_36 (by decide) ?_
        exact Z_iret hC dX5_faultAt_40 k.1 k.2
    · have k := k.2 c2
      refine Z_iconst (v := 3) hC dX5_faultAt_19 rfl ?_
      exact Z_iret hC dX5_faultAt_20 k.1 k.2
  · have k := k.2 c1
    refine Z_iconst (v := 1) hC dX5_faultAt_9 rfl ?_
    exact Z_iret hC dX5_faultAt_10 k.1 k.2
theorem eX5_faultAt {o : Nat} (ho : zcls o = 5) {x1 : Int32} {x2 : Int32} {X : Option Value} {Y : ZS} {s : ZS} (k : ((¬ ((s o).1 0) = ((-4)) → ((((s o).1 0) = x1 → (∃ (r4 : Int32) (s3 : ZS), Ev l ad D ia d mX8_outside [.int x2, .int 0, .int (((s o).1 1) - 1)] s (some (.int r4)) s3 ∧ ((r4 = 0 → (X = some (.int 0) ∧ Y = s3)) ∧ (¬ r4 = 0 → (X = some (.int 2) ∧ Y = s3))))) ∧ (¬ ((s o).1 0) = x1 → (X = some (.int 3) ∧ Y = s)))) ∧ (((s o).1 0) = ((-4)) → (X = some (.int 1) ∧ Y = s)))) : Ev l ad D ia (d + 1) mX5_faultAt [.ref (ad o 0), .int x1, .int x2] s X Y :=
  Ev.start (by decide +kernel) (Nat.le_of_ble_eq_true rfl) (fun C hC => bX5_faultAt_0 ho hC k)
set_option maxRecDepth 100000 in
set_option maxHeartbeats 4000000 in
theorem bX5_faultOfPair_0 {o : Nat} (ho : zcls o = 5) {x1 : Int32} {x2 : Int32} {C : ZC} {X : Option Value} {Y : ZS} {s : ZS} (hC : Zok ad D ia C (d + 1) cX5_faultOfPair 4 RX5 (some .int)) (k : (∃ (r2 : Int32) (s1 : ZS), Ev l ad D ia d mX5_faultAt [.ref (ad o 0), .int x1, .int x2] s (some (.int r2)) s1 ∧ ((r2 = 0 → (∃ (r6 : Int32) (s5 : ZS), Ev l ad D ia d mX5_faultAt [.ref (ad o 0), .int x1, .int (x2 + 1)] s1 (some (.int r6)) s5 ∧ (X = some (.int r6) ∧ Y = s5))) ∧ (¬ r2 = 0 → (X = some (.int r2) ∧ Y = s1))))) : Z l ad D ia C X Y 0 [(0, .ref (ad o 0)), (1, .int x1), (2, .int x2)] [] s := by
  refine Z_aload_n hC dX5_faultOfPair_0 rfl rfl ?_
  refine Z_iload_n hC dX5_faultOfPair_1 rfl rfl ?_
  refine Z_iload_n hC dX5_faultOfPair_2 rfl rfl ?_
  obtain ⟨r2, s1, h3, k⟩ := k
  refine Z_callV (As := [.int x1, .int x2]) (rest := []) hC h3 cvX5_26 ⟨5, ho, zs_5, _, rfl, rfl⟩ rfl rfl (Nat.le_of_ble_eq_true rfl) dX5_faultOfPair_3 ?_
  refine Z_istore_n (V2 := [(3, .int r2), (0, .ref (ad o 0)), (1, .int x1), (2, .int x2)]) hC dX5_faultOfPair_6 rfl (by decide) rfl ?_
  refine Z_iload_n hC dX5_faultOfPair_7 rfl rfl ?_
  refine Z_if_eq (tgt := 15) hC dX5_faultOfPair_8 (by decide) (fun c4 => ?_) (fun c4 => ?_)
  · have k := k.1 c4
    refine Z_aload_n hC dX5_faultOfPair_15 rfl rfl ?_
    refine Z_iload_n hC dX5_faultOfPair_16 rfl rfl ?_
    refine Z_iload_n hC dX5_faultOfPair_17 rfl rfl ?_
    refine Z_iconst (v := 1) hC dX5_faultOfPair_18 rfl ?_
    refine Z_iadd hC dX5_faultOfPair_19 ?_
    obtain ⟨r6, s5, h7, k⟩ := k
    refine Z_callV (As := [.int x1, .int (x2 + 1)]) (rest := []) hC h7 cvX5_26 ⟨5, ho, zs_5, _, rfl, rfl⟩ rfl rfl (Nat.le_of_ble_eq_true rfl) dX5_faultOfPair_20 ?_
    exact Z_iret hC dX5_faultOfPair_23 k.1 k.2
  · have k := k.2 c4
    refine Z_iload_n hC dX5_faultOfPair_11 rfl rfl ?_
    refine Z_goto (tgt := 23) hC dX5_faultOfPair_12 (by decide) ?_
    exact Z_iret hC dX5_faultOfPair_23 k.1 k.2
theorem eX5_faultOfPair {o : Nat} (ho : zcls o = 5) {x1 : Int32} {x2 : Int32} {X : Option Value} {Y : ZS} {s : ZS} (k : (∃ (r2 : Int32) (s1 : ZS), Ev l ad D ia d mX5_faultAt [.ref (ad o 0), .int x1, .int x2] s (some (.int r2)) s1 ∧ ((r2 = 0 → (∃ (r6 : Int32) (s5 : ZS), Ev l ad D ia d mX5_faultAt [.ref (ad o 0), .int x1, .int (x2 + 1)] s1 (some (.int r6)) s5 ∧ (X = some (.int r6) ∧ Y = s5))) ∧ (¬ r2 = 0 → (X = some (.int r2) ∧ Y = s1))))) : Ev l ad D ia (d + 1) mX5_faultOfPair [.ref (ad o 0), .int x1, .int x2] s X Y :=
  Ev.start (by decide +kernel) (Nat.le_of_ble_eq_true rfl) (fun C hC => bX5_faultOfPair_0 ho hC k)
set_option maxRecDepth 100000 in
set_option maxHeartbeats 4000000 in
theorem bX5_put_0 {o : Nat} (ho : zcls o = 5) {x1 : Int32} {x2 : Int32} {C : ZC} {X : Option Value} {Y : ZS} {s : ZS} (hC : Zok ad D ia C d cX5_put 3 RX5 none) (k : ((((s o).1 0) = 0 → (vp_in x1 40 ∧ (∀ s3 : ZS, s3 = stA s o 2 x1.toNatClampNeg x2.toInt8.toInt32 → (X = none ∧ Y = s3)))) ∧ (((s o).1 0) = 1 → (vp_in x1 40 ∧ (∀ s6 : ZS, s6 = stA s o 2 x1.toNatClampNeg x2.toInt16.toInt32 → (X = none ∧ Y = s6)))) ∧ ((¬ ((s o).1 0) = 0 ∧ ¬ ((s o).1 0) = 1) → (vp_in x1 40 ∧ (∀ s8 : ZS, s8 = stA s o 2 x1.toNatClampNeg x2 → (X = none ∧ Y = s8)))))) : Z l ad D ia C X Y 0 [(0, .ref (ad o 0)), (1, .int x1), (2, .int x2)] [] s := by
  refine Z_aload_n hC dX5_put_0 rfl rfl ?_
  refine Z_get (o := o) (c := 5) (k := 0) (v := .int ((s o).1 0)) hC ho zs_5 lkX5_9 rfl dX5_put_1 ?_
  by_cases c1 : ((s o).1 0) = 0
  · have c1x : (((s o).1 0)).toInt = 0 := by rw [c1]; rfl
    have k := k.1 c1
    refine Z_look (off := 28) (tgt := 32) hC dX5_put_4 rfl (by rw [c1x]; try rfl) (by decide) ?_
    refine Z_aload_n hC dX5_put_32 rfl rfl ?_
    refine Z_get (o := o) (c := 5) (k := 2) (v := .ref (ad o 3)) hC ho zs_5 lkX5_15 rfl dX5_put_33 ?_
    refine Z_iload_n hC dX5_put_36 rfl rfl ?_
    refine Z_iload_n hC dX5_put_37 rfl rfl ?_
    refine Z_i2b hC dX5_put_38 ?_
    obtain ⟨h2, k⟩ := k
    refine Z_iast2 (o := o) (k := 2) hC (zis_of ho rfl) h2 dX5_put_39 (fun s3 es3 => ?_)
    have k := k s3 es3
    refine Z_goto (tgt := 61) hC dX5_put_40 (by decide) ?_
    exact Z_vret hC dX5_put_61 k.1 k.2
  by_cases c4 : ((s o).1 0) = 1
  · have c4x : (((s o).1 0)).toInt = 1 := by rw [c4]; rfl
    have k := k.2.1 c4
    refine Z_look (off := 39) (tgt := 43) hC dX5_put_4 rfl (by rw [c4x]; try rfl) (by decide) ?_
    refine Z_aload_n hC dX5_put_43 rfl rfl ?_
    refine Z_get (o := o) (c := 5) (k := 2) (v := .ref (ad o 3)) hC ho zs_5 lkX5_15 rfl dX5_put_44 ?_
    refine Z_iload_n hC dX5_put_47 rfl rfl ?_
    refine Z_iload_n hC dX5_put_48 rfl rfl ?_
    refine Z_i2s hC dX5_put_49 ?_
    obtain ⟨h5, k⟩ := k
    refine Z_iast2 (o := o) (k := 2) hC (zis_of ho rfl) h5 dX5_put_50 (fun s6 es6 => ?_)
    have k := k s6 es6
    refine Z_goto (tgt := 61) hC dX5_put_51 (by decide) ?_
    exact Z_vret hC dX5_put_61 k.1 k.2
  have k := k.2.2 ⟨c1, c4⟩
  refine Z_look (off := 50) (tgt := 54) hC dX5_put_4 rfl ((lv_osw (k := 0) c1 rfl).trans ((lv_osw (k := 1) c4 rfl).trans (rfl))) (by decide) ?_
  refine Z_aload_n hC dX5_put_54 rfl rfl ?_
  refine Z_get (o := o) (c := 5) (k := 2) (v := .ref (ad o 3)) hC ho zs_5 lkX5_15 rfl dX5_put_55 ?_
  refine Z_iload_n hC dX5_put_58 rfl rfl ?_
  refine Z_iload_n hC dX5_put_59 rfl rfl ?_
  obtain ⟨h7, k⟩ := k
  refine Z_iast2 (o := o) (k := 2) hC (zis_of ho rfl) h7 dX5_put_60 (fun s8 es8 => ?_)
  have k := k s8 es8
  exact Z_vret hC dX5_put_61 k.1 k.2
theorem eX5_put {o : Nat} (ho : zcls o = 5) {x1 : Int32} {x2 : Int32} {X : Option Value} {Y : ZS} {s : ZS} (k : ((((s o).1 0) = 0 → (vp_in x1 40 ∧ (∀ s3 : ZS, s3 = stA s o 2 x1.toNatClampNeg x2.toInt8.toInt32 → (X = none ∧ Y = s3)))) ∧ (((s o).1 0) = 1 → (vp_in x1 40 ∧ (∀ s6 : ZS, s6 = stA s o 2 x1.toNatClampNeg x2.toInt16.toInt32 → (X = none ∧ Y = s6)))) ∧ ((¬ ((s o).1 0) = 0 ∧ ¬ ((s o).1 0) = 1) → (vp_in x1 40 ∧ (∀ s8 : ZS, s8 = stA s o 2 x1.toNatClampNeg x2 → (X = none ∧ Y = s8)))))) : Ev l ad D ia d mX5_put [.ref (ad o 0), .int x1, .int x2] s X Y :=
  Ev.start (by decide +kernel) (Nat.le_of_ble_eq_true rfl) (fun C hC => bX5_put_0 ho hC k)
set_option maxRecDepth 100000 in
set_option maxHeartbeats 4000000 in
theorem bX6_put_0 {o : Nat} (ho : zcls o = 6) {x1 : Int32} {x2 : Int32} {x3 : Int32} {C : ZC} {X : Option Value} {Y : ZS} {s : ZS} (hC : Zok ad D ia C d cX6_put 4 RX6 none) (k : ((6 ≤ ((s o).1 0) → (X = none ∧ Y = s)) ∧ (¬ 6 ≤ ((s o).1 0) → (vp_in ((s o).1 0) 6 ∧ (∀ s3 : ZS, s3 = stA s o 1 ((s o).1 0).toNatClampNeg x1 → (vp_in ((s3 o).1 0) 6 ∧ (∀ s5 : ZS, s5 = stA s3 o 2 ((s3 o).1 0).toNatClampNeg x2 → (vp_in ((s5 o).1 0) 6 ∧ (∀ s7 : ZS, s7 = stA s5 o 3 ((s5 o).1 0).toNatClampNeg x3 → (∀ s8 : ZS, s8 = stI s7 o 0 (((s7 o).1 0) + 1) → (X = none ∧ Y = s8))))))))))) : Z l ad D ia C X Y 0 [(0, .ref (ad o 0)), (1, .int x1), (2, .int x2), (3, .int x3)] [] s := by
  refine Z_aload_n hC dX6_put_0 rfl rfl ?_
  refine Z_get (o := o) (c := 6) (k := 0) (v := .int ((s o).1 0)) hC ho zs_6 lkX6_21 rfl dX6_put_1 ?_
  refine Z_bipush (v := 6) hC dX6_put_4 rfl ?_
  refine Z_icmp_ge (tgt := 49) hC dX6_put_6 (by decide) (fun c1 => ?_) (fun c1 => ?_)
  · have k := k.1 c1
    exact Z_vret hC dX6_put_49 k.1 k.2
  · have k := k.2 c1
    refine Z_aload_n hC dX6_put_9 rfl rfl ?_
    refine Z_get (o := o) (c := 6) (k := 1) (v := .ref (ad o 2)) hC ho zs_6 lkX6_9 rfl dX6_put_10 ?_
    refine Z_aload_n hC dX6_put_13 rfl rfl ?_
    refine Z_get (o := o) (c := 6) (k := 0) (v := .int ((s o).1 0)) hC ho zs_6 lkX6_21 rfl dX6_put_14 ?_
    refine Z_iload_n hC dX6_put_17 rfl rfl ?_
    obtain ⟨h2, k⟩ := k
    refine Z_iast2 (o := o) (k := 1) hC (zis_of ho rfl) h2 dX6_put_18 (fun s3 es3 => ?_)
    have k := k s3 es3
    refine Z_aload_n hC dX6_put_19 rfl rfl ?_
    refine Z_get (o := o) (c := 6) (k := 2) (v := .ref (ad o 3)) hC ho zs_6 lkX6_15 rfl dX6_put_20 ?_
    refine Z_aload_n hC dX6_put_23 rfl rfl ?_
    refine Z_get (o := o) (c := 6) (k := 0) (v := .int ((s3 o).1 0)) hC ho zs_6 lkX6_21 rfl dX6_put_24 ?_
    refine Z_iload_n hC dX6_put_27 rfl rfl ?_
    obtain ⟨h4, k⟩ := k
    refine Z_iast2 (o := o) (k := 2) hC (zis_of ho rfl) h4 dX6_put_28 (fun s5 es5 => ?_)
    have k := k s5 es5
    refine Z_aload_n hC dX6_put_29 rfl rfl ?_
    refine Z_get (o := o) (c := 6) (k := 3) (v := .ref (ad o 4)) hC ho zs_6 lkX6_18 rfl dX6_put_30 ?_
    refine Z_aload_n hC dX6_put_33 rfl rfl ?_
    refine Z_get (o := o) (c := 6) (k := 0) (v := .int ((s5 o).1 0)) hC ho zs_6 lkX6_21 rfl dX6_put_34 ?_
    refine Z_iload_n hC dX6_put_37 rfl rfl ?_
    obtain ⟨h6, k⟩ := k
    refine Z_iast2 (o := o) (k := 3) hC (zis_of ho rfl) h6 dX6_put_38 (fun s7 es7 => ?_)
    have k := k s7 es7
    refine Z_aload_n hC dX6_put_39 rfl rfl ?_
    refine Z_dup hC dX6_put_40 rfl ?_
    refine Z_get (o := o) (c := 6) (k := 0) (v := .int ((s7 o).1 0)) hC ho zs_6 lkX6_21 rfl dX6_put_41 ?_
    refine Z_iconst (v := 1) hC dX6_put_44 rfl ?_
    refine Z_iadd hC dX6_put_45 ?_
    refine Z_putI (o := o) (k := 0) hC ho zs_6 pkX6_21 rfl rfl (hsX6_0 _ _ _) dX6_put_46 (fun s8 es8 => ?_)
    have k := k s8 es8
    exact Z_vret hC dX6_put_49 k.1 k.2
theorem eX6_put {o : Nat} (ho : zcls o = 6) {x1 : Int32} {x2 : Int32} {x3 : Int32} {X : Option Value} {Y : ZS} {s : ZS} (k : ((6 ≤ ((s o).1 0) → (X = none ∧ Y = s)) ∧ (¬ 6 ≤ ((s o).1 0) → (vp_in ((s o).1 0) 6 ∧ (∀ s3 : ZS, s3 = stA s o 1 ((s o).1 0).toNatClampNeg x1 → (vp_in ((s3 o).1 0) 6 ∧ (∀ s5 : ZS, s5 = stA s3 o 2 ((s3 o).1 0).toNatClampNeg x2 → (vp_in ((s5 o).1 0) 6 ∧ (∀ s7 : ZS, s7 = stA s5 o 3 ((s5 o).1 0).toNatClampNeg x3 → (∀ s8 : ZS, s8 = stI s7 o 0 (((s7 o).1 0) + 1) → (X = none ∧ Y = s8))))))))))) : Ev l ad D ia d mX6_put [.ref (ad o 0), .int x1, .int x2, .int x3] s X Y :=
  Ev.start (by decide +kernel) (Nat.le_of_ble_eq_true rfl) (fun C hC => bX6_put_0 ho hC k)
set_option maxRecDepth 100000 in
set_option maxHeartbeats 4000000 in
theorem bX6_copyFrom_0 {o : Nat} (ho : zcls o = 6) {o1 : Nat} (ho1 : zcls o1 = 6) {C : ZC} {X : Option Value} {Y : ZS} {s : ZS} (hC : Zok ad D ia C (d + 1) cX6_copyFrom 2 RX6 none) (k : (∀ s1 : ZS, s1 = stI s o 0 ((s o1).1 0) → (∀ s2 : ZS, s2 = stR s1 o 1 (va_cpy ((s1 o1).2.2 1) ((s1 o).2.2 1) (0 : Int32).toNatClampNeg (0 : Int32).toNatClampNeg (6 : Int32).toNatClampNeg) → (∀ s4 : ZS, s4 = stR s2 o 2 (va_cpy ((s2 o1).2.2 2) ((s2 o).2.2 2) (0 : Int32).toNatClampNeg (0 : Int32).toNatClampNeg (6 : Int32).toNatClampNeg) → (∀ s6 : ZS, s6 = stR s4 o 3 (va_cpy ((s4 o1).2.2 3) ((s4 o).2.2 3) (0 : Int32).toNatClampNeg (0 : Int32).toNatClampNeg (6 : Int32).toNatClampNeg) → (X = none ∧ Y = s6)))))) : Z l ad D ia C X Y 0 [(0, .ref (ad o 0)), (1, .ref (ad o1 0))] [] s := by
  refine Z_aload_n hC dX6_copyFrom_0 rfl rfl ?_
  refine Z_aload_n hC dX6_copyFrom_1 rfl rfl ?_
  refine Z_get (o := o1) (c := 6) (k := 0) (v := .int ((s o1).1 0)) hC ho1 zs_6 lkX6_21 rfl dX6_copyFrom_2 ?_
  refine Z_putI (o := o) (k := 0) hC ho zs_6 pkX6_21 rfl rfl (hsX6_0 _ _ _) dX6_copyFrom_5 (fun s1 es1 => ?_)
  have k := k s1 es1
  refine Z_aload_n hC dX6_copyFrom_8 rfl rfl ?_
  refine Z_get (o := o1) (c := 6) (k := 1) (v := .ref (ad o1 2)) hC ho1 zs_6 lkX6_9 rfl dX6_copyFrom_9 ?_
  refine Z_iconst (v := 0) hC dX6_copyFrom_12 rfl ?_
  refine Z_aload_n hC dX6_copyFrom_13 rfl rfl ?_
  refine Z_get (o := o) (c := 6) (k := 1) (v := .ref (ad o 2)) hC ho zs_6 lkX6_9 rfl dX6_copyFrom_14 ?_
  refine Z_iconst (v := 0) hC dX6_copyFrom_17 rfl ?_
  refine Z_bipush (v := 6) hC dX6_copyFrom_18 rfl ?_
  refine Z_copy (o0 := o1) (k0 := 1) (n0 := 6) (o1 := o) (k1 := 1) (n1 := 6) hC mlX6_25 an_cp as_cp ai_cp (zis_of ho1 rfl) (zis_of ho rfl) (by decide) (by decide) (by decide) (by decide) (by decide) (Nat.le_of_ble_eq_true rfl) dX6_copyFrom_20 (fun s2 es2 => ?_)
  have k := k s2 es2
  refine Z_aload_n hC dX6_copyFrom_23 rfl rfl ?_
  refine Z_get (o := o1) (c := 6) (k := 2) (v := .ref (ad o1 3)) hC ho1 zs_6 lkX6_15 rfl dX6_copyFrom_24 ?_
  refine Z_iconst (v := 0) hC dX6_copyFrom_27 rfl ?_
  refine Z_aload_n hC dX6_copyFrom_28 rfl rfl ?_
  refine Z_get (o := o) (c := 6) (k := 2) (v := .ref (ad o 3)) hC ho zs_6 lkX6_15 rfl dX6_copyFrom_29 ?_
  refine Z_iconst (v := 0) hC dX6_copyFrom_32 rfl ?_
  refine Z_bipush (v := 6) hC dX6_copyFrom_33 rfl ?_
  refine Z_copy (o0 := o1) (k0 := 2) (n0 := 6) (o1 := o) (k1 := 2) (n1 := 6) hC mlX6_25 an_cp as_cp ai_cp (zis_of ho1 rfl) (zis_of ho rfl) (by decide) (by decide) (by decide) (by decide) (by decide) (Nat.le_of_ble_eq_true rfl) dX6_copyFrom_35 (fun s4 es4 => ?_)
  have k := k s4 es4
  refine Z_aload_n hC dX6_copyFrom_38 rfl rfl ?_
  refine Z_get (o := o1) (c := 6) (k := 3) (v := .ref (ad o1 4)) hC ho1 zs_6 lkX6_18 rfl dX6_copyFrom_39 ?_
  refine Z_iconst (v := 0) hC dX6_copyFrom_42 rfl ?_
  refine Z_aload_n hC dX6_copyFrom_43 rfl rfl ?_
  refine Z_get (o := o) (c := 6) (k := 3) (v := .ref (ad o 4)) hC ho zs_6 lkX6_18 rfl dX6_copyFrom_44 ?_
  refine Z_iconst (v := 0) hC dX6_copyFrom_47 rfl ?_
  refine Z_bipush (v := 6) hC dX6_copyFrom_48 rfl ?_
  refine Z_copy (o0 := o1) (k0 := 3) (n0 := 6) (o1 := o) (k1 := 3) (n1 := 6) hC mlX6_25 an_cp as_cp ai_cp (zis_of ho1 rfl) (zis_of ho rfl) (by decide) (by decide) (by decide) (by decide) (by decide) (Nat.le_of_ble_eq_true rfl) dX6_copyFrom_50 (fun s6 es6 => ?_)
  have k := k s6 es6
  exact Z_vret hC dX6_copyFrom_53 k.1 k.2
theorem eX6_copyFrom {o : Nat} (ho : zcls o = 6) {o1 : Nat} (ho1 : zcls o1 = 6) {X : Option Value} {Y : ZS} {s : ZS} (k : (∀ s1 : ZS, s1 = stI s o 0 ((s o1).1 0) → (∀ s2 : ZS, s2 = stR s1 o 1 (va_cpy ((s1 o1).2.2 1) ((s1 o).2.2 1) (0 : Int32).toNatClampNeg (0 : Int32).toNatClampNeg (6 : Int32).toNatClampNeg) → (∀ s4 : ZS, s4 = stR s2 o 2 (va_cpy ((s2 o1).2.2 2) ((s2 o).2.2 2) (0 : Int32).toNatClampNeg (0 : Int32).toNatClampNeg (6 : Int32).toNatClampNeg) → (∀ s6 : ZS, s6 = stR s4 o 3 (va_cpy ((s4 o1).2.2 3) ((s4 o).2.2 3) (0 : Int32).toNatClampNeg (0 : Int32).toNatClampNeg (6 : Int32).toNatClampNeg) → (X = none ∧ Y = s6)))))) : Ev l ad D ia (d + 1) mX6_copyFrom [.ref (ad o 0), .ref (ad o1 0)] s X Y :=
  Ev.start (by decide +kernel) (Nat.le_of_ble_eq_true rfl) (fun C hC => bX6_copyFrom_0 ho ho1 hC k)
set_option maxRecDepth 100000 in
set_option maxHeartbeats 4000000 in
theorem bX6_agreeWith_0 {o : Nat} (ho : zcls o = 6) {o1 : Nat} (ho1 : zcls o1 = 0) {C : ZC} {X : Option Value} {Y : ZS} {s : ZS} (hC : Zok ad D ia C (d + 1) cX6_agreeWith 5 RX6 (some .boolean)) (k : (∃ (r2 : Int32) (s1 : ZS), Ev l ad D ia d mX6_lastBehind [.ref (ad o 0)] s (some (.int r2)) s1 ∧ Z l ad D ia C X Y 7 [(0, .ref (ad o 0)), (1, .ref (ad o1 0)), (2, .int r2), (3, .int 0)] [] s1)) : Z l ad D ia C X Y 0 [(0, .ref (ad o 0)), (1, .ref (ad o1 0))] [] s := by
  refine Z_aload_n hC dX6_agreeWith_0 rfl rfl ?_
  obtain ⟨r2, s1, h3, k⟩ := k
  refine Z_callV (As := []) (rest := []) hC h3 cvX6_31 ⟨6, ho, zs_6, _, rfl, rfl⟩ rfl rfl (Nat.le_of_ble_eq_true rfl) dX6_agreeWith_1 ?_
  refine Z_istore_n (V2 := [(2, .int r2), (0, .ref (ad o 0)), (1, .ref (ad o1 0))]) hC dX6_agreeWith_4 rfl (by decide) rfl ?_
  refine Z_iconst (v := 0) hC dX6_agreeWith_5 rfl ?_
  refine Z_istore_n (V2 := [(3, .int 0), (2, .int r2), (0, .ref (ad o 0)), (1, .ref (ad o1 0))]) hC dX6_agreeWith_6 rfl (by decide) rfl ?_
  exact Z_pick [2, 3, 1, 0] rfl k
theorem eX6_agreeWith {o : Nat} (ho : zcls o = 6) {o1 : Nat} (ho1 : zcls o1 = 0) {X : Option Value} {Y : ZS} {s : ZS} (k : ∀ C : ZC, Zok ad D ia C (d + 1) cX6_agreeWith 5 RX6 (some .boolean) → (∃ (r2 : Int32) (s1 : ZS), Ev l ad D ia d mX6_lastBehind [.ref (ad o 0)] s (some (.int r2)) s1 ∧ Z l ad D ia C X Y 7 [(0, .ref (ad o 0)), (1, .ref (ad o1 0)), (2, .int r2), (3, .int 0)] [] s1)) : Ev l ad D ia (d + 1) mX6_agreeWith [.ref (ad o 0), .ref (ad o1 0)] s X Y :=
  Ev.start (by decide +kernel) (Nat.le_of_ble_eq_true rfl) (fun C hC => bX6_agreeWith_0 ho ho1 hC (k C hC))
set_option maxRecDepth 100000 in
set_option maxHeartbeats 4000000 in
theorem bX6_agreeWith_7 {o : Nat} (ho : zcls o = 6) {o1 : Nat} (ho1 : zcls o1 = 0) {x2 : Int32} {x3 : Int32} {C : ZC} {X : Option Value} {Y : ZS} {s : ZS} (hC : Zok ad D ia C (d + 1) cX6_agreeWith 5 RX6 (some .boolean)) (k : ((x2 < x3 → (X = some (.int 1) ∧ Y = s)) ∧ (¬ x2 < x3 → Z l ad D ia C X Y 15 [(0, .ref (ad o 0)), (1, .ref (ad o1 0)), (2, .int x2), (3, .int x3), (4, .int 0)] [] s))) : Z l ad D ia C X Y 7 [(0, .ref (ad o 0)), (1, .ref (ad o1 0)), (2, .int x2), (3, .int x3)] [] s := by
  refine Z_iload_n hC dX6_agreeWith_7 rfl rfl ?_
  refine Z_iload_n hC dX6_agreeWith_8 rfl rfl ?_
  refine Z_icmp_gt (tgt := 75) hC dX6_agreeWith_9 (by decide) (fun c1 => ?_) (fun c1 => ?_)
  · have k := k.1 c1
    refine Z_iconst (v := 1) hC dX6_agreeWith_75 rfl ?_
    exact Z_zret hC dX6_agreeWith_76 rfl k.1 k.2
  · have k := k.2 c1
    refine Z_iconst (v := 0) hC dX6_agreeWith_12 rfl ?_
    refine Z_istore (V2 := [(4, .int 0), (0, .ref (ad o 0)), (1, .ref (ad o1 0)), (2, .int x2), (3, .int x3)]) hC dX6_agreeWith_13 (by decide) rfl ?_
    exact Z_pick [1, 2, 3, 4, 0] rfl k
set_option maxRecDepth 100000 in
set_option maxHeartbeats 4000000 in
theorem bX6_agreeWith_15 {o : Nat} (ho : zcls o = 6) {o1 : Nat} (ho1 : zcls o1 = 0) {x2 : Int32} {x3 : Int32} {x4 : Int32} {C : ZC} {X : Option Value} {Y : ZS} {s : ZS} (hC : Zok ad D ia C (d + 1) cX6_agreeWith 5 RX6 (some .boolean)) (k : ((((s o).1 0) ≤ x4 → (∃ s2 : ZS, Ev l ad D ia d mX0_passDay [.ref (ad o1 0)] s none s2 ∧ Z l ad D ia C X Y 7 [(0, .ref (ad o 0)), (1, .ref (ad o1 0)), (2, .int x2), (3, .int (x3 + 1))] [] s2)) ∧ (¬ ((s o).1 0) ≤ x4 → (vp_in x4 6 ∧ ((¬ ((s o).2.2 1 x4.toNatClampNeg) = x3 → Z l ad D ia C X Y 15 [(0, .ref (ad o 0)), (1, .ref (ad o1 0)), (2, .int x2), (3, .int x3), (4, .int (x4 + 1))] [] s) ∧ (((s o).2.2 1 x4.toNatClampNeg) = x3 → (vp_in x4 6 ∧ (vp_in ((s o).2.2 2 x4.toNatClampNeg) 4 ∧ (vp_in x4 6 ∧ ((((s o1).2.2 6 ((s o).2.2 2 x4.toNatClampNeg).toNatClampNeg) = ((s o).2.2 3 x4.toNatClampNeg) → Z l ad D ia C X Y 15 [(0, .ref (ad o 0)), (1, .ref (ad o1 0)), (2, .int x2), (3, .int x3), (4, .int (x4 + 1))] [] s) ∧ (¬ ((s o1).2.2 6 ((s o).2.2 2 x4.toNatClampNeg).toNatClampNeg) = ((s o).2.2 3 x4.toNatClampNeg) → (X = some (.int 0) ∧ Y = s)))))))))))) : Z l ad D ia C X Y 15 [(0, .ref (ad o 0)), (1, .ref (ad o1 0)), (2, .int x2), (3, .int x3), (4, .int x4)] [] s := by
  refine Z_iload hC dX6_agreeWith_15 rfl ?_
  refine Z_aload_n hC dX6_agreeWith_17 rfl rfl ?_
  refine Z_get (o := o) (c := 6) (k := 0) (v := .int ((s o).1 0)) hC ho zs_6 lkX6_21 rfl dX6_agreeWith_18 ?_
  refine Z_icmp_ge (tgt := 65) hC dX6_agreeWith_21 (by decide) (fun c1 => ?_) (fun c1 => ?_)
  · have k := k.1 c1
    refine Z_aload_n hC dX6_agreeWith_65 rfl rfl ?_
    obtain ⟨s2, h3, k⟩ := k
    refine Z_callV (As := []) (rest := []) hC h3 cvX6_40 ⟨0, ho1, zs_0, _, rfl, rfl⟩ rfl rfl (Nat.le_of_ble_eq_true rfl) dX6_agreeWith_66 ?_
    refine Z_iinc (v := x3 + 1) (V2 := [(3, .int (x3 + 1)), (0, .ref (ad o 0)), (1, .ref (ad o1 0)), (2, .int x2), (4, .int x4)]) hC dX6_agreeWith_69 rfl rfl (by decide) rfl ?_
    refine Z_goto (tgt := 7) hC dX6_agreeWith_72 (by decide) ?_
    exact Z_pick [1, 2, 3, 0] rfl k
  · have k := k.2 c1
    refine Z_aload_n hC dX6_agreeWith_24 rfl rfl ?_
    refine Z_get (o := o) (c := 6) (k := 1) (v := .ref (ad o 2)) hC ho zs_6 lkX6_9 rfl dX6_agreeWith_25 ?_
    refine Z_iload hC dX6_agreeWith_28 rfl ?_
    obtain ⟨h4, k⟩ := k
    refine Z_iald (o := o) (k := 1) hC (zis_of ho rfl) h4 dX6_agreeWith_30 ?_
    refine Z_iload_n hC dX6_agreeWith_31 rfl rfl ?_
    refine Z_icmp_ne (tgt := 59) hC dX6_agreeWith_32 (by decide) (fun c5 => ?_) (fun c5 => ?_)
    · have k := k.1 c5
      refine Z_iinc (v := x4 + 1) (V2 := [(4, .int (x4 + 1)), (0, .ref (ad o 0)), (1, .ref (ad o1 0)), (2, .int x2), (3, .int x3)]) hC dX6_agreeWith_59 rfl rfl (by decide) rfl ?_
      refine Z_goto (tgt := 15) hC dX6_agreeWith_62 (by decide) ?_
      exact Z_pick [1, 2, 3, 4, 0] rfl k
    · have k := k.2 c5
      refine Z_aload_n hC dX6_agreeWith_35 rfl rfl ?_
      refine Z_get (o := o1) (c := 0) (k := 6) (v := .ref (ad o1 7)) hC ho1 zs_0 lkX6_35 rfl dX6_agreeWith_36 ?_
      refine Z_aload_n hC dX6_agreeWith_39 rfl rfl ?_
      refine Z_get (o := o) (c := 6) (k := 2) (v := .ref (ad o 3)) hC ho zs_6 lkX6_15 rfl dX6_agreeWith_40 ?_
      refine Z_iload hC dX6_agreeWith_43 rfl ?_
      obtain ⟨h6, k⟩ := k
      refine Z_iald (o := o) (k := 2) hC (zis_of ho rfl) h6 dX6_agreeWith_45 ?_
      obtain ⟨h7, k⟩ := k
      refine Z_iald (o := o1) (k := 6) hC (zis_of ho1 rfl) h7 dX6_agreeWith_46 ?_
      refine Z_aload_n hC dX6_agreeWith_47 rfl rfl ?_
      refine Z_get (o := o) (c := 6) (k := 3) (v := .ref (ad o 4)) hC ho zs_6 lkX6_18 rfl dX6_agreeWith_48 ?_
      refine Z_iload hC dX6_agreeWith_51 rfl ?_
      obtain ⟨h8, k⟩ := k
      refine Z_iald (o := o) (k := 3) hC (zis_of ho rfl) h8 dX6_agreeWith_53 ?_
      refine Z_icmp_eq (tgt := 59) hC dX6_agreeWith_54 (by decide) (fun c9 => ?_) (fun c9 => ?_)
      · have k := k.1 c9
        refine Z_iinc (v := x4 + 1) (V2 := [(4, .int (x4 + 1)), (0, .ref (ad o 0)), (1, .ref (ad o1 0)), (2, .int x2), (3, .int x3)]) hC dX6_agreeWith_59 rfl rfl (by decide) rfl ?_
        refine Z_goto (tgt := 15) hC dX6_agreeWith_62 (by decide) ?_
        exact Z_pick [1, 2, 3, 4, 0] rfl k
      · have k := k.2 c9
        refine Z_iconst (v := 0) hC dX6_agreeWith_57 rfl ?_
        exact Z_zret hC dX6_agreeWith_58 rfl k.1 k.2
set_option maxRecDepth 100000 in
set_option maxHeartbeats 4000000 in
theorem bX6_lastBehind_0 {o : Nat} (ho : zcls o = 6) {C : ZC} {X : Option Value} {Y : ZS} {s : ZS} (hC : Zok ad D ia C (d + 1) cX6_lastBehind 3 RX6 (some .int)) (k : Z l ad D ia C X Y 4 [(0, .ref (ad o 0)), (1, .int ((-1))), (2, .int 0)] [] s) : Z l ad D ia C X Y 0 [(0, .ref (ad o 0))] [] s := by
  refine Z_iconst (v := (-1)) hC dX6_lastBehind_0 rfl ?_
  refine Z_istore_n (V2 := [(1, .int ((-1))), (0, .ref (ad o 0))]) hC dX6_lastBehind_1 rfl (by decide) rfl ?_
  refine Z_iconst (v := 0) hC dX6_lastBehind_2 rfl ?_
  refine Z_istore_n (V2 := [(2, .int 0), (1, .int ((-1))), (0, .ref (ad o 0))]) hC dX6_lastBehind_3 rfl (by decide) rfl ?_
  exact Z_pick [2, 1, 0] rfl k
theorem eX6_lastBehind {o : Nat} (ho : zcls o = 6) {X : Option Value} {Y : ZS} {s : ZS} (k : ∀ C : ZC, Zok ad D ia C (d + 1) cX6_lastBehind 3 RX6 (some .int) → Z l ad D ia C X Y 4 [(0, .ref (ad o 0)), (1, .int ((-1))), (2, .int 0)] [] s) : Ev l ad D ia (d + 1) mX6_lastBehind [.ref (ad o 0)] s X Y :=
  Ev.start (by decide +kernel) (Nat.le_of_ble_eq_true rfl) (fun C hC => bX6_lastBehind_0 ho hC (k C hC))
set_option maxRecDepth 100000 in
set_option maxHeartbeats 4000000 in
theorem bX6_lastBehind_4 {o : Nat} (ho : zcls o = 6) {x1 : Int32} {x2 : Int32} {C : ZC} {X : Option Value} {Y : ZS} {s : ZS} (hC : Zok ad D ia C (d + 1) cX6_lastBehind 3 RX6 (some .int)) (k : ((((s o).1 0) ≤ x2 → (X = some (.int x1) ∧ Y = s)) ∧ (¬ ((s o).1 0) ≤ x2 → (vp_in x2 6 ∧ Z l ad D ia C X Y 4 [(0, .ref (ad o 0)), (1, .int (mmax x1 ((s o).2.2 1 x2.toNatClampNeg))), (2, .int (x2 + 1))] [] s)))) : Z l ad D ia C X Y 4 [(0, .ref (ad o 0)), (1, .int x1), (2, .int x2)] [] s := by
  refine Z_iload_n hC dX6_lastBehind_4 rfl rfl ?_
  refine Z_aload_n hC dX6_lastBehind_5 rfl rfl ?_
  refine Z_get (o := o) (c := 6) (k := 0) (v := .int ((s o).1 0)) hC ho zs_6 lkX6_21 rfl dX6_lastBehind_6 ?_
  refine Z_icmp_ge (tgt := 29) hC dX6_lastBehind_9 (by decide) (fun c1 => ?_) (fun c1 => ?_)
  · have k := k.1 c1
    refine Z_iload_n hC dX6_lastBehind_29 rfl rfl ?_
    exact Z_iret hC dX6_lastBehind_30 k.1 k.2
  · have k := k.2 c1
    refine Z_iload_n hC dX6_lastBehind_12 rfl rfl ?_
    refine Z_aload_n hC dX6_lastBehind_13 rfl rfl ?_
    refine Z_get (o := o) (c := 6) (k := 1) (v := .ref (ad o 2)) hC ho zs_6 lkX6_9 rfl dX6_lastBehind_14 ?_
    refine Z_iload_n hC dX6_lastBehind_17 rfl rfl ?_
    obtain ⟨h2, k⟩ := k
    refine Z_iald (o := o) (k := 1) hC (zis_of ho rfl) h2 dX6_lastBehind_18 ?_
    refine Z_mmax hC mlX6_43 ms_max mi_math mc_max (Nat.le_of_ble_eq_true rfl) dX6_lastBehind_19 ?_
    refine Z_istore_n (V2 := [(1, .int (mmax x1 ((s o).2.2 1 x2.toNatClampNeg))), (0, .ref (ad o 0)), (2, .int x2)]) hC dX6_lastBehind_22 rfl (by decide) rfl ?_
    refine Z_iinc (v := x2 + 1) (V2 := [(2, .int (x2 + 1)), (1, .int (mmax x1 ((s o).2.2 1 x2.toNatClampNeg))), (0, .ref (ad o 0))]) hC dX6_lastBehind_23 rfl rfl (by decide) rfl ?_
    refine Z_goto (tgt := 4) hC dX6_lastBehind_26 (by decide) ?_
    exact Z_pick [2, 1, 0] rfl k
set_option maxRecDepth 100000 in
set_option maxHeartbeats 4000000 in
theorem bX7_rewind_0 {C : ZC} {X : Option Value} {Y : ZS} {s : ZS} (hC : Zok ad D ia C d cX7_rewind 1 RX7 none) (k : (∀ s1 : ZS, s1 = stI s 16 2 0 → (∀ s2 : ZS, s2 = stI s1 16 3 0 → (∀ s3 : ZS, s3 = stI s2 16 4 0 → (X = none ∧ Y = s3))))) : Z l ad D ia C X Y 0 [(0, .ref (ad 16 0))] [] s := by
  refine Z_aload_n hC dX7_rewind_0 rfl rfl ?_
  refine Z_iconst (v := 0) hC dX7_rewind_1 rfl ?_
  refine Z_putI (o := 16) (k := 2) hC rfl zs_7 pkX7_15 rfl rfl (hsX7_2 _ _ _) dX7_rewind_2 (fun s1 es1 => ?_)
  have k := k s1 es1
  refine Z_aload_n hC dX7_rewind_5 rfl rfl ?_
  refine Z_iconst (v := 0) hC dX7_rewind_6 rfl ?_
  refine Z_putI (o := 16) (k := 3) hC rfl zs_7 pkX7_19 rfl rfl (hsX7_3 _ _ _) dX7_rewind_7 (fun s2 es2 => ?_)
  have k := k s2 es2
  refine Z_aload_n hC dX7_rewind_10 rfl rfl ?_
  refine Z_iconst (v := 0) hC dX7_rewind_11 rfl ?_
  refine Z_putI (o := 16) (k := 4) hC rfl zs_7 pkX7_22 rfl rfl (hsX7_4 _ _ _) dX7_rewind_12 (fun s3 es3 => ?_)
  have k := k s3 es3
  exact Z_vret hC dX7_rewind_15 k.1 k.2
theorem eX7_rewind {X : Option Value} {Y : ZS} {s : ZS} (k : (∀ s1 : ZS, s1 = stI s 16 2 0 → (∀ s2 : ZS, s2 = stI s1 16 3 0 → (∀ s3 : ZS, s3 = stI s2 16 4 0 → (X = none ∧ Y = s3))))) : Ev l ad D ia d mX7_rewind [.ref (ad 16 0)] s X Y :=
  Ev.start (by decide +kernel) (Nat.le_of_ble_eq_true rfl) (fun C hC => bX7_rewind_0  hC k)
set_option maxRecDepth 100000 in
set_option maxHeartbeats 4000000 in
theorem bX7_advance_0 {C : ZC} {X : Option Value} {Y : ZS} {s : ZS} (hC : Zok ad D ia C (d + 1) cX7_advance 2 RX7 none) (k : (∀ s1 : ZS, s1 = stI s 16 3 ((s 16).1 4) → Z l ad D ia C X Y 8 [(0, .ref (ad 16 0))] [] s1)) : Z l ad D ia C X Y 0 [(0, .ref (ad 16 0))] [] s := by
  refine Z_aload_n hC dX7_advance_0 rfl rfl ?_
  refine Z_aload_n hC dX7_advance_1 rfl rfl ?_
  refine Z_get (o := 16) (c := 7) (k := 4) (v := .int ((s 16).1 4)) hC rfl zs_7 lkX7_22 rfl dX7_advance_2 ?_
  refine Z_putI (o := 16) (k := 3) hC rfl zs_7 pkX7_19 rfl rfl (hsX7_3 _ _ _) dX7_advance_5 (fun s1 es1 => ?_)
  have k := k s1 es1
  exact k
theorem eX7_advance {X : Option Value} {Y : ZS} {s : ZS} (k : ∀ C : ZC, Zok ad D ia C (d + 1) cX7_advance 2 RX7 none → (∀ s1 : ZS, s1 = stI s 16 3 ((s 16).1 4) → Z l ad D ia C X Y 8 [(0, .ref (ad 16 0))] [] s1)) : Ev l ad D ia (d + 1) mX7_advance [.ref (ad 16 0)] s X Y :=
  Ev.start (by decide +kernel) (Nat.le_of_ble_eq_true rfl) (fun C hC => bX7_advance_0  hC (k C hC))
set_option maxRecDepth 100000 in
set_option maxHeartbeats 4000000 in
theorem bX7_advance_8 {C : ZC} {X : Option Value} {Y : ZS} {s : ZS} (hC : Zok ad D ia C (d + 1) cX7_advance 2 RX7 none) (k : ((((s 16).1 1) ≤ ((s 16).1 3) → ((((s 16).1 1) ≤ ((s 16).1 3) → Z l ad D ia C X Y 74 [(0, .ref (ad 16 0))] [.int 0, .ref (ad 16 0)] s) ∧ (¬ ((s 16).1 1) ≤ ((s 16).1 3) → (vp_in ((s 16).1 3) 160 ∧ (∃ (r5 : Int32) (s4 : ZS), Ev l ad D ia d mX7_sortOf [.int ((s 16).2.2 0 ((s 16).1 3).toNatClampNeg)] s (some (.int r5)) s4 ∧ Z l ad D ia C X Y 74 [(0, .ref (ad 16 0))] [.int r5, .ref (ad 16 0)] s4))))) ∧ (¬ ((s 16).1 1) ≤ ((s 16).1 3) → (vp_in ((s 16).1 3) 160 ∧ ((¬ ((s 16).2.2 0 ((s 16).1 3).toNatClampNeg) = 32 → ((((s 16).1 1) ≤ ((s 16).1 3) → Z l ad D ia C X Y 74 [(0, .ref (ad 16 0))] [.int 0, .ref (ad 16 0)] s) ∧ (¬ ((s 16).1 1) ≤ ((s 16).1 3) → (vp_in ((s 16).1 3) 160 ∧ (∃ (r12 : Int32) (s11 : ZS), Ev l ad D ia d mX7_sortOf [.int ((s 16).2.2 0 ((s 16).1 3).toNatClampNeg)] s (some (.int r12)) s11 ∧ Z l ad D ia C X Y 74 [(0, .ref (ad 16 0))] [.int r12, .ref (ad 16 0)] s11))))) ∧ (((s 16).2.2 0 ((s 16).1 3).toNatClampNeg) = 32 → (∀ s14 : ZS, s14 = stI s 16 3 (((s 16).1 3) + 1) → Z l ad D ia C X Y 8 [(0, .ref (ad 16 0))] [] s14))))))) : Z l ad D ia C X Y 8 [(0, .ref (ad 16 0))] [] s := by
  refine Z_aload_n hC dX7_advance_8 rfl rfl ?_
  refine Z_get (o := 16) (c := 7) (k := 3) (v := .int ((s 16).1 3)) hC rfl zs_7 lkX7_19 rfl dX7_advance_9 ?_
  refine Z_aload_n hC dX7_advance_12 rfl rfl ?_
  refine Z_get (o := 16) (c := 7) (k := 1) (v := .int ((s 16).1 1)) hC rfl zs_7 lkX7_25 rfl dX7_advance_13 ?_
  refine Z_icmp_ge (tgt := 46) hC dX7_advance_16 (by decide) (fun c1 => ?_) (fun c1 => ?_)
  · have k := k.1 c1
    refine Z_aload_n hC dX7_advance_46 rfl rfl ?_
    refine Z_aload_n hC dX7_advance_47 rfl rfl ?_
    refine Z_get (o := 16) (c := 7) (k := 3) (v := .int ((s 16).1 3)) hC rfl zs_7 lkX7_19 rfl dX7_advance_48 ?_
    refine Z_aload_n hC dX7_advance_51 rfl rfl ?_
    refine Z_get (o := 16) (c := 7) (k := 1) (v := .int ((s 16).1 1)) hC rfl zs_7 lkX7_25 rfl dX7_advance_52 ?_
    refine Z_icmp_ge (tgt := 73) hC dX7_advance_55 (by decide) (fun c2 => ?_) (fun c2 => ?_)
    · have k := k.1 c2
      refine Z_iconst (v := 0) hC dX7_advance_73 rfl ?_
      exact k
    · have k := k.2 c2
      refine Z_aload_n hC dX7_advance_58 rfl rfl ?_
      refine Z_get (o := 16) (c := 7) (k := 0) (v := .ref (ad 16 1)) hC rfl zs_7 lkX7_9 rfl dX7_advance_59 ?_
      refine Z_aload_n hC dX7_advance_62 rfl rfl ?_
      refine Z_get (o := 16) (c := 7) (k := 3) (v := .int ((s 16).1 3)) hC rfl zs_7 lkX7_19 rfl dX7_advance_63 ?_
      obtain ⟨h3, k⟩ := k
      refine Z_bald (o := 16) (k := 0) hC (zis_of rfl rfl) h3 dX7_advance_66 ?_
      obtain ⟨r5, s4, h6, k⟩ := k
      refine Z_callS (As := [.int ((s 16).2.2 0 ((s 16).1 3).toNatClampNeg)]) (rest := [.ref (ad 16 0)]) hC h6 csX7_28 rfl rfl (Nat.le_of_ble_eq_true rfl) dX7_advance_67 ?_
      refine Z_goto (tgt := 74) hC dX7_advance_70 (by decide) ?_
      exact k
  · have k := k.2 c1
    refine Z_aload_n hC dX7_advance_19 rfl rfl ?_
    refine Z_get (o := 16) (c := 7) (k := 0) (v := .ref (ad 16 1)) hC rfl zs_7 lkX7_9 rfl dX7_advance_20 ?_
    refine Z_aload_n hC dX7_advance_23 rfl rfl ?_
    refine Z_get (o := 16) (c := 7) (k := 3) (v := .int ((s 16).1 3)) hC rfl zs_7 lkX7_19 rfl dX7_advance_24 ?_
    obtain ⟨h7, k⟩ := k
    refine Z_bald (o := 16) (k := 0) hC (zis_of rfl rfl) h7 dX7_advance_27 ?_
    refine Z_bipush (v := 32) hC dX7_advance_28 rfl ?_
    refine Z_icmp_ne (tgt := 46) hC dX7_advance_30 (by decide) (fun c8 => ?_) (fun c8 => ?_)
    · have k := k.1 c8
      refine Z_aload_n hC dX7_advance_46 rfl rfl ?_
      refine Z_aload_n hC dX7_advance_47 rfl rfl ?_
      refine Z_get (o := 16) (c := 7) (k := 3) (v := .int ((s 16).1 3)) hC rfl zs_7 lkX7_19 rfl dX7_advance_48 ?_
      refine Z_aload_n hC dX7_advance_51 rfl rfl ?_
      refine Z_get (o := 16) (c := 7) (k := 1) (v := .int ((s 16).1 1)) hC rfl zs_7 lkX7_25 rfl dX7_advance_52 ?_
      refine Z_icmp_ge (tgt := 73) hC dX7_advance_55 (by decide) (fun c9 => ?_) (fun c9 => ?_)
      · have k := k.1 c9
        refine Z_iconst (v := 0) hC dX7_advance_73 rfl ?_
        exact k
      · have k := k.2 c9
        refine Z_aload_n hC dX7_advance_58 rfl rfl ?_
        refine Z_get (o := 16) (c := 7) (k := 0) (v := .ref (ad 16 1)) hC rfl zs_7 lkX7_9 rfl dX7_advance_59 ?_
        refine Z_aload_n hC dX7_advance_62 rfl rfl ?_
        refine Z_get (o := 16) (c := 7) (k := 3) (v := .int ((s 16).1 3)) hC rfl zs_7 lkX7_19 rfl dX7_advance_63 ?_
        obtain ⟨h10, k⟩ := k
        refine Z_bald (o := 16) (k := 0) hC (zis_of rfl rfl) h10 dX7_advance_66 ?_
        obtain ⟨r12, s11, h13, k⟩ := k
        refine Z_callS (As := [.int ((s 16).2.2 0 ((s 16).1 3).toNatClampNeg)]) (rest := [.ref (ad 16 0)]) hC h13 csX7_28 rfl rfl (Nat.le_of_ble_eq_true rfl) dX7_advance_67 ?_
        refine Z_goto (tgt := 74) hC dX7_advance_70 (by decide) ?_
        exact k
    · have k := k.2 c8
      refine Z_aload_n hC dX7_advance_33 rfl rfl ?_
      refine Z_dup hC dX7_advance_34 rfl ?_
      refine Z_get (o := 16) (c := 7) (k := 3) (v := .int ((s 16).1 3)) hC rfl zs_7 lkX7_19 rfl dX7_advance_35 ?_
      refine Z_iconst (v := 1) hC dX7_advance_38 rfl ?_
      refine Z_iadd hC dX7_advance_39 ?_
      refine Z_putI (o := 16) (k := 3) hC rfl zs_7 pkX7_19 rfl rfl (hsX7_3 _ _ _) dX7_advance_40 (fun s14 es14 => ?_)
      have k := k s14 es14
      refine Z_goto (tgt := 8) hC dX7_advance_43 (by decide) ?_
      exact k
set_option maxRecDepth 100000 in
set_option maxHeartbeats 4000000 in
theorem bX7_advance_74 {t0 : Int32} {C : ZC} {X : Option Value} {Y : ZS} {s : ZS} (hC : Zok ad D ia C (d + 1) cX7_advance 2 RX7 none) (k : (∀ s1 : ZS, s1 = stI s 16 2 t0 → ((((s1 16).1 1) ≤ ((s1 16).1 3) → (∀ s3 : ZS, s3 = stI s1 16 4 ((s1 16).1 3) → ((((s3 16).1 2) = 1 → Z l ad D ia C X Y 127 [(0, .ref (ad 16 0)), (1, .int 1)] [] s3) ∧ (¬ ((s3 16).1 2) = 1 → ((¬ ((s3 16).1 2) = 2 → Z l ad D ia C X Y 127 [(0, .ref (ad 16 0)), (1, .int 0)] [] s3) ∧ (((s3 16).1 2) = 2 → Z l ad D ia C X Y 127 [(0, .ref (ad 16 0)), (1, .int 1)] [] s3)))))) ∧ (¬ ((s1 16).1 1) ≤ ((s1 16).1 3) → (∀ s6 : ZS, s6 = stI s1 16 4 (((s1 16).1 3) + 1) → ((((s6 16).1 2) = 1 → Z l ad D ia C X Y 127 [(0, .ref (ad 16 0)), (1, .int 1)] [] s6) ∧ (¬ ((s6 16).1 2) = 1 → ((¬ ((s6 16).1 2) = 2 → Z l ad D ia C X Y 127 [(0, .ref (ad 16 0)), (1, .int 0)] [] s6) ∧ (((s6 16).1 2) = 2 → Z l ad D ia C X Y 127 [(0, .ref (ad 16 0)), (1, .int 1)] [] s6))))))))) : Z l ad D ia C X Y 74 [(0, .ref (ad 16 0))] [.int t0, .ref (ad 16 0)] s := by
  refine Z_putI (o := 16) (k := 2) hC rfl zs_7 pkX7_15 rfl rfl (hsX7_2 _ _ _) dX7_advance_74 (fun s1 es1 => ?_)
  have k := k s1 es1
  refine Z_aload_n hC dX7_advance_77 rfl rfl ?_
  refine Z_aload_n hC dX7_advance_78 rfl rfl ?_
  refine Z_get (o := 16) (c := 7) (k := 3) (v := .int ((s1 16).1 3)) hC rfl zs_7 lkX7_19 rfl dX7_advance_79 ?_
  refine Z_aload_n hC dX7_advance_82 rfl rfl ?_
  refine Z_get (o := 16) (c := 7) (k := 1) (v := .int ((s1 16).1 1)) hC rfl zs_7 lkX7_25 rfl dX7_advance_83 ?_
  refine Z_icmp_ge (tgt := 98) hC dX7_advance_86 (by decide) (fun c2 => ?_) (fun c2 => ?_)
  · have k := k.1 c2
    refine Z_aload_n hC dX7_advance_98 rfl rfl ?_
    refine Z_get (o := 16) (c := 7) (k := 3) (v := .int ((s1 16).1 3)) hC rfl zs_7 lkX7_19 rfl dX7_advance_99 ?_
    refine Z_putI (o := 16) (k := 4) hC rfl zs_7 pkX7_22 rfl rfl (hsX7_4 _ _ _) dX7_advance_102 (fun s3 es3 => ?_)
    have k := k s3 es3
    refine Z_aload_n hC dX7_advance_105 rfl rfl ?_
    refine Z_get (o := 16) (c := 7) (k := 2) (v := .int ((s3 16).1 2)) hC rfl zs_7 lkX7_15 rfl dX7_advance_106 ?_
    refine Z_iconst (v := 1) hC dX7_advance_109 rfl ?_
    refine Z_icmp_eq (tgt := 121) hC dX7_advance_110 (by decide) (fun c4 => ?_) (fun c4 => ?_)
    · have k := k.1 c4
      refine Z_iconst (v := 1) hC dX7_advance_121 rfl ?_
      refine Z_goto (tgt := 126) hC dX7_advance_122 (by decide) ?_
      refine Z_istore_n (V2 := [(1, .int 1), (0, .ref (ad 16 0))]) hC dX7_advance_126 rfl (by decide) rfl ?_
      exact Z_pick [1, 0] rfl k
    · have k := k.2 c4
      refine Z_aload_n hC dX7_advance_113 rfl rfl ?_
      refine Z_get (o := 16) (c := 7) (k := 2) (v := .int ((s3 16).1 2)) hC rfl zs_7 lkX7_15 rfl dX7_advance_114 ?_
      refine Z_iconst (v := 2) hC dX7_advance_117 rfl ?_
      refine Z_icmp_ne (tgt := 125) hC dX7_advance_118 (by decide) (fun c5 => ?_) (fun c5 => ?_)
      · have k := k.1 c5
        refine Z_iconst (v := 0) hC dX7_advance_125 rfl ?_
        refine Z_istore_n (V2 := [(1, .int 0), (0, .ref (ad 16 0))]) hC dX7_advance_126 rfl (by decide) rfl ?_
        exact Z_pick [1, 0] rfl k
      · have k := k.2 c5
        refine Z_iconst (v := 1) hC dX7_advance_121 rfl ?_
        refine Z_goto (tgt := 126) hC dX7_advance_122 (by decide) ?_
        refine Z_istore_n (V2 := [(1, .int 1), (0, .ref (ad 16 0))]) hC dX7_advance_126 rfl (by decide) rfl ?_
        exact Z_pick [1, 0] rfl k
  · have k := k.2 c2
    refine Z_aload_n hC dX7_advance_89 rfl rfl ?_
    refine Z_get (o := 16) (c := 7) (k := 3) (v := .int ((s1 16).1 3)) hC rfl zs_7 lkX7_19 rfl dX7_advance_90 ?_
    refine Z_iconst (v := 1) hC dX7_advance_93 rfl ?_
    refine Z_iadd hC dX7_advance_94 ?_
    refine Z_goto (tgt := 102) hC dX7_advance_95 (by decide) ?_
    refine Z_putI (o := 16) (k := 4) hC rfl zs_7 pkX7_22 rfl rfl (hsX7_4 _ _ _) dX7_advance_102 (fun s6 es6 => ?_)
    have k := k s6 es6
    refine Z_aload_n hC dX7_advance_105 rfl rfl ?_
    refine Z_get (o := 16) (c := 7) (k := 2) (v := .int ((s6 16).1 2)) hC rfl zs_7 lkX7_15 rfl dX7_advance_106 ?_
    refine Z_iconst (v := 1) hC dX7_advance_109 rfl ?_
    refine Z_icmp_eq (tgt := 121) hC dX7_advance_110 (by decide) (fun c7 => ?_) (fun c7 => ?_)
    · have k := k.1 c7
      refine Z_iconst (v := 1) hC dX7_advance_121 rfl ?_
      refine Z_goto (tgt := 126) hC dX7_advance_122 (by decide) ?_
      refine Z_istore_n (V2 := [(1, .int 1), (0, .ref (ad 16 0))]) hC dX7_advance_126 rfl (by decide) rfl ?_
      exact Z_pick [1, 0] rfl k
    · have k := k.2 c7
      refine Z_aload_n hC dX7_advance_113 rfl rfl ?_
      refine Z_get (o := 16) (c := 7) (k := 2) (v := .int ((s6 16).1 2)) hC rfl zs_7 lkX7_15 rfl dX7_advance_114 ?_
      refine Z_iconst (v := 2) hC dX7_advance_117 rfl ?_
      refine Z_icmp_ne (tgt := 125) hC dX7_advance_118 (by decide) (fun c8 => ?_) (fun c8 => ?_)
      · have k := k.1 c8
        refine Z_iconst (v := 0) hC dX7_advance_125 rfl ?_
        refine Z_istore_n (V2 := [(1, .int 0), (0, .ref (ad 16 0))]) hC dX7_advance_126 rfl (by decide) rfl ?_
        exact Z_pick [1, 0] rfl k
      · have k := k.2 c8
        refine Z_iconst (v := 1) hC dX7_advance_121 rfl ?_
        refine Z_goto (tgt := 126) hC dX7_advance_122 (by decide) ?_
        refine Z_istore_n (V2 := [(1, .int 1), (0, .ref (ad 16 0))]) hC dX7_advance_126 rfl (by decide) rfl ?_
        exact Z_pick [1, 0] rfl k
set_option maxRecDepth 100000 in
set_option maxHeartbeats 4000000 in
theorem bX7_advance_127 {x1 : Int32} {C : ZC} {X : Option Value} {Y : ZS} {s : ZS} (hC : Zok ad D ia C (d + 1) cX7_advance 2 RX7 none) (k : ((x1 = 0 → Z l ad D ia C X Y 174 [(0, .ref (ad 16 0))] [] s) ∧ (¬ x1 = 0 → ((((s 16).1 1) ≤ ((s 16).1 4) → Z l ad D ia C X Y 174 [(0, .ref (ad 16 0))] [] s) ∧ (¬ ((s 16).1 1) ≤ ((s 16).1 4) → (vp_in ((s 16).1 4) 160 ∧ (∃ (r5 : Int32) (s4 : ZS), Ev l ad D ia d mX7_sortOf [.int ((s 16).2.2 0 ((s 16).1 4).toNatClampNeg)] s (some (.int r5)) s4 ∧ ((¬ r5 = ((s4 16).1 2) → Z l ad D ia C X Y 174 [(0, .ref (ad 16 0))] [] s4) ∧ (r5 = ((s4 16).1 2) → (∀ s8 : ZS, s8 = stI s4 16 4 (((s4 16).1 4) + 1) → Z l ad D ia C X Y 127 [(0, .ref (ad 16 0)), (1, .int x1)] [] s8)))))))))) : Z l ad D ia C X Y 127 [(0, .ref (ad 16 0)), (1, .int x1)] [] s := by
  refine Z_iload_n hC dX7_advance_127 rfl rfl ?_
  refine Z_if_eq (tgt := 174) hC dX7_advance_128 (by decide) (fun c1 => ?_) (fun c1 => ?_)
  · have k := k.1 c1
    exact Z_pick [0] rfl k
  · have k := k.2 c1
    refine Z_aload_n hC dX7_advance_131 rfl rfl ?_
    refine Z_get (o := 16) (c := 7) (k := 4) (v := .int ((s 16).1 4)) hC rfl zs_7 lkX7_22 rfl dX7_advance_132 ?_
    refine Z_aload_n hC dX7_advance_135 rfl rfl ?_
    refine Z_get (o := 16) (c := 7) (k := 1) (v := .int ((s 16).1 1)) hC rfl zs_7 lkX7_25 rfl dX7_advance_136 ?_
    refine Z_icmp_ge (tgt := 174) hC dX7_advance_139 (by decide) (fun c2 => ?_) (fun c2 => ?_)
    · have k := k.1 c2
      exact Z_pick [0] rfl k
    · have k := k.2 c2
      refine Z_aload_n hC dX7_advance_142 rfl rfl ?_
      refine Z_get (o := 16) (c := 7) (k := 0) (v := .ref (ad 16 1)) hC rfl zs_7 lkX7_9 rfl dX7_advance_143 ?_
      refine Z_aload_n hC dX7_advance_146 rfl rfl ?_
      refine Z_get (o := 16) (c := 7) (k := 4) (v := .int ((s 16).1 4)) hC rfl zs_7 lkX7_22 rfl dX7_advance_147 ?_
      obtain ⟨h3, k⟩ := k
      refine Z_bald (o := 16) (k := 0) hC (zis_of rfl rfl) h3 dX7_advance_150 ?_
      obtain ⟨r5, s4, h6, k⟩ := k
      refine Z_callS (As := [.int ((s 16).2.2 0 ((s 16).1 4).toNatClampNeg)]) (rest := []) hC h6 csX7_28 rfl rfl (Nat.le_of_ble_eq_true rfl) dX7_advance_151 ?_
      refine Z_aload_n hC dX7_advance_154 rfl rfl ?_
      refine Z_get (o := 16) (c := 7) (k := 2) (v := .int ((s4 16).1 2)) hC rfl zs_7 lkX7_15 rfl dX7_advance_155 ?_
      refine Z_icmp_ne (tgt := 174) hC dX7_advance_158 (by decide) (fun c7 => ?_) (fun c7 => ?_)
      · have k := k.1 c7
        exact Z_pick [0] rfl k
      · have k := k.2 c7
        refine Z_aload_n hC dX7_advance_161 rfl rfl ?_
        refine Z_dup hC dX7_advance_162 rfl ?_
        refine Z_get (o := 16) (c := 7) (k := 4) (v := .int ((s4 16).1 4)) hC rfl zs_7 lkX7_22 rfl dX7_advance_163 ?_
        refine Z_iconst (v := 1) hC dX7_advance_166 rfl ?_
        refine Z_iadd hC dX7_advance_167 ?_
        refine Z_putI (o := 16) (k := 4) hC rfl zs_7 pkX7_22 rfl rfl (hsX7_4 _ _ _) dX7_advance_168 (fun s8 es8 => ?_)
        have k := k s8 es8
        refine Z_goto (tgt := 127) hC dX7_advance_171 (by decide) ?_
        exact k
set_option maxRecDepth 100000 in
set_option maxHeartbeats 4000000 in
theorem bX7_advance_174 {C : ZC} {X : Option Value} {Y : ZS} {s : ZS} (hC : Zok ad D ia C (d + 1) cX7_advance 2 RX7 none) (k : ((¬ ((s 16).1 2) = 2 → (X = none ∧ Y = s)) ∧ (((s 16).1 2) = 2 → (((((s 16).1 4) - ((s 16).1 3)) ≤ 2 → (X = none ∧ Y = s)) ∧ (¬ (((s 16).1 4) - ((s 16).1 3)) ≤ 2 → (∀ s3 : ZS, s3 = stI s 16 2 4 → (X = none ∧ Y = s3))))))) : Z l ad D ia C X Y 174 [(0, .ref (ad 16 0))] [] s := by
  refine Z_aload_n hC dX7_advance_174 rfl rfl ?_
  refine Z_get (o := 16) (c := 7) (k := 2) (v := .int ((s 16).1 2)) hC rfl zs_7 lkX7_15 rfl dX7_advance_175 ?_
  refine Z_iconst (v := 2) hC dX7_advance_178 rfl ?_
  refine Z_icmp_ne (tgt := 200) hC dX7_advance_179 (by decide) (fun c1 => ?_) (fun c1 => ?_)
  · have k := k.1 c1
    exact Z_vret hC dX7_advance_200 k.1 k.2
  · have k := k.2 c1
    refine Z_aload_n hC dX7_advance_182 rfl rfl ?_
    refine Z_get (o := 16) (c := 7) (k := 4) (v := .int ((s 16).1 4)) hC rfl zs_7 lkX7_22 rfl dX7_advance_183 ?_
    refine Z_aload_n hC dX7_advance_186 rfl rfl ?_
    refine Z_get (o := 16) (c := 7) (k := 3) (v := .int ((s 16).1 3)) hC rfl zs_7 lkX7_19 rfl dX7_advance_187 ?_
    refine Z_isub hC dX7_advance_190 ?_
    refine Z_iconst (v := 2) hC dX7_advance_191 rfl ?_
    refine Z_icmp_le (tgt := 200) hC dX7_advance_192 (by decide) (fun c2 => ?_) (fun c2 => ?_)
    · have k := k.1 c2
      exact Z_vret hC dX7_advance_200 k.1 k.2
    · have k := k.2 c2
      refine Z_aload_n hC dX7_advance_195 rfl rfl ?_
      refine Z_iconst (v := 4) hC dX7_advance_196 rfl ?_
      refine Z_putI (o := 16) (k := 2) hC rfl zs_7 pkX7_15 rfl rfl (hsX7_2 _ _ _) dX7_advance_197 (fun s3 es3 => ?_)
      have k := k s3 es3
      exact Z_vret hC dX7_advance_200 k.1 k.2
set_option maxRecDepth 100000 in
set_option maxHeartbeats 4000000 in
theorem bX7_sortOf_0 {x0 : Int32} {C : ZC} {X : Option Value} {Y : ZS} {s : ZS} (hC : Zok ad D ia C d cX7_sortOf 1 RX7 (some .int)) (k : ((x0 < (97 : Int32) → ((x0 < (48 : Int32) → ((¬ x0 = 59 → (X = some (.int 4) ∧ Y = s)) ∧ (x0 = 59 → (X = some (.int 3) ∧ Y = s)))) ∧ (¬ x0 < (48 : Int32) → ((57 < x0 → ((¬ x0 = 59 → (X = some (.int 4) ∧ Y = s)) ∧ (x0 = 59 → (X = some (.int 3) ∧ Y = s)))) ∧ (¬ 57 < x0 → (X = some (.int 2) ∧ Y = s)))))) ∧ (¬ x0 < (97 : Int32) → ((122 < x0 → ((x0 < (48 : Int32) → ((¬ x0 = 59 → (X = some (.int 4) ∧ Y = s)) ∧ (x0 = 59 → (X = some (.int 3) ∧ Y = s)))) ∧ (¬ x0 < (48 : Int32) → ((57 < x0 → ((¬ x0 = 59 → (X = some (.int 4) ∧ Y = s)) ∧ (x0 = 59 → (X = some (.int 3) ∧ Y = s)))) ∧ (¬ 57 < x0 → (X = some (.int 2) ∧ Y = s)))))) ∧ (¬ 122 < x0 → (X = some (.int 1) ∧ Y = s)))))) : Z l ad D ia C X Y 0 [(0, .int x0)] [] s := by
  refine Z_bipush (v := 97) hC dX7_sortOf_0 rfl ?_
  refine Z_iload_n hC dX7_sortOf_2 rfl rfl ?_
  refine Z_icmp_gt (tgt := 14) hC dX7_sortOf_3 (by decide) (fun c1 => ?_) (fun c1 => ?_)
  · have k := k.1 c1
    refine Z_bipush (v := 48) hC dX7_sortOf_14 rfl ?_
    refine Z_iload_n hC dX7_sortOf_16 rfl rfl ?_
    refine Z_icmp_gt (tgt := 28) hC dX7_sortOf_17 (by decide) (fun c2 => ?_) (fun c2 => ?_)
    · have k := k.1 c2
      refine Z_iload_n hC dX7_sortOf_28 rfl rfl ?_
      refine Z_bipush (v := 59) hC dX7_sortOf_29 rfl ?_
      refine Z_icmp_ne (tgt := 38) hC dX7_sortOf_31 (by decide) (fun c3 => ?_) (fun c3 => ?_)
      · have k := k.1 c3
        refine Z_iconst (v := 4) hC dX7_sortOf_38 rfl ?_
        exact Z_iret hC dX7_sortOf_39 k.1 k.2
      · have k := k.2 c3
        refine Z_iconst (v := 3) hC dX7_sortOf_34 rfl ?_
        refine Z_goto (tgt := 39) hC dX7_sortOf_35 (by decide) ?_
        exact Z_iret hC dX7_sortOf_39 k.1 k.2
    · have k := k.2 c2
      refine Z_iload_n hC dX7_sortOf_20 rfl rfl ?_
      refine Z_bipush (v := 57) hC dX7_sortOf_21 rfl ?_
      refine Z_icmp_gt (tgt := 28) hC dX7_sortOf_23 (by decide) (fun c4 => ?_) (fun c4 => ?_)
      · have k := k.1 c4
        refine Z_iload_n hC dX7_sortOf_28 rfl rfl ?_
        refine Z_bipush (v := 59) hC dX7_sortOf_29 rfl ?_
        refine Z_icmp_ne (tgt := 38) hC dX7_sortOf_31 (by decide) (fun c5 => ?_) (fun c5 => ?_)
        · have k := k.1 c5
          refine Z_iconst (v := 4) hC dX7_sortOf_38 rfl ?_
          exact Z_iret hC dX7_sortOf_39 k.1 k.2
        · have k := k.2 c5
          refine Z_iconst (v := 3) hC dX7_sortOf_34 rfl ?_
          refine Z_goto (tgt := 39) hC dX7_sortOf_35 (by decide) ?_
          exact Z_iret hC dX7_sortOf_39 k.1 k.2
      · have k := k.2 c4
        refine Z_iconst (v := 2) hC dX7_sortOf_26 rfl ?_
        exact Z_iret hC dX7_sortOf_27 k.1 k.2
  · have k := k.2 c1
    refine Z_iload_n hC dX7_sortOf_6 rfl rfl ?_
    refine Z_bipush (v := 122) hC dX7_sortOf_7 rfl ?_
    refine Z_icmp_gt (tgt := 14) hC dX7_sortOf_9 (by decide) (fun c6 => ?_) (fun c6 => ?_)
    · have k := k.1 c6
      refine Z_bipush (v := 48) hC dX7_sortOf_14 rfl ?_
      refine Z_iload_n hC dX7_sortOf_16 rfl rfl ?_
      refine Z_icmp_gt (tgt := 28) hC dX7_sortOf_17 (by decide) (fun c7 => ?_) (fun c7 => ?_)
      · have k := k.1 c7
        refine Z_iload_n hC dX7_sortOf_28 rfl rfl ?_
        refine Z_bipush (v := 59) hC dX7_sortOf_29 rfl ?_
        refine Z_icmp_ne (tgt := 38) hC dX7_sortOf_31 (by decide) (fun c8 => ?_) (fun c8 => ?_)
        · have k := k.1 c8
          refine Z_iconst (v := 4) hC dX7_sortOf_38 rfl ?_
          exact Z_iret hC dX7_sortOf_39 k.1 k.2
        · have k := k.2 c8
          refine Z_iconst (v := 3) hC dX7_sortOf_34 rfl ?_
          refine Z_goto (tgt := 39) hC dX7_sortOf_35 (by decide) ?_
          exact Z_iret hC dX7_sortOf_39 k.1 k.2
      · have k := k.2 c7
        refine Z_iload_n hC dX7_sortOf_20 rfl rfl ?_
        refine Z_bipush (v := 57) hC dX7_sortOf_21 rfl ?_
        refine Z_icmp_gt (tgt := 28) hC dX7_sortOf_23 (by decide) (fun c9 => ?_) (fun c9 => ?_)
        · have k := k.1 c9
          refine Z_iload_n hC dX7_sortOf_28 rfl rfl ?_
          refine Z_bipush (v := 59) hC dX7_sortOf_29 rfl ?_
          refine Z_icmp_ne (tgt := 38) hC dX7_sortOf_31 (by decide) (fun c10 => ?_) (fun c10 => ?_)
          · have k := k.1 c10
            refine Z_iconst (v := 4) hC dX7_sortOf_38 rfl ?_
            exact Z_iret hC dX7_sortOf_39 k.1 k.2
          · have k := k.2 c10
            refine Z_iconst (v := 3) hC dX7_sortOf_34 rfl ?_
            refine Z_goto (tgt := 39) hC dX7_sortOf_35 (by decide) ?_
            exact Z_iret hC dX7_sortOf_39 k.1 k.2
        · have k := k.2 c9
          refine Z_iconst (v := 2) hC dX7_sortOf_26 rfl ?_
          exact Z_iret hC dX7_sortOf_27 k.1 k.2
    · have k := k.2 c6
      refine Z_iconst (v := 1) hC dX7_sortOf_12 rfl ?_
      exact Z_iret hC dX7_sortOf_13 k.1 k.2
theorem eX7_sortOf {x0 : Int32} {X : Option Value} {Y : ZS} {s : ZS} (k : ((x0 < (97 : Int32) → ((x0 < (48 : Int32) → ((¬ x0 = 59 → (X = some (.int 4) ∧ Y = s)) ∧ (x0 = 59 → (X = some (.int 3) ∧ Y = s)))) ∧ (¬ x0 < (48 : Int32) → ((57 < x0 → ((¬ x0 = 59 → (X = some (.int 4) ∧ Y = s)) ∧ (x0 = 59 → (X = some (.int 3) ∧ Y = s)))) ∧ (¬ 57 < x0 → (X = some (.int 2) ∧ Y = s)))))) ∧ (¬ x0 < (97 : Int32) → ((122 < x0 → ((x0 < (48 : Int32) → ((¬ x0 = 59 → (X = some (.int 4) ∧ Y = s)) ∧ (x0 = 59 → (X = some (.int 3) ∧ Y = s)))) ∧ (¬ x0 < (48 : Int32) → ((57 < x0 → ((¬ x0 = 59 → (X = some (.int 4) ∧ Y = s)) ∧ (x0 = 59 → (X = some (.int 3) ∧ Y = s)))) ∧ (¬ 57 < x0 → (X = some (.int 2) ∧ Y = s)))))) ∧ (¬ 122 < x0 → (X = some (.int 1) ∧ Y = s)))))) : Ev l ad D ia d mX7_sortOf [.int x0] s X Y :=
  Ev.start (by decide +kernel) (Nat.le_of_ble_eq_true rfl) (fun C hC => bX7_sortOf_0  hC k)
set_option maxRecDepth 100000 in
set_option maxHeartbeats 4000000 in
theorem bX7_valueOfNumber_0 {C : ZC} {X : Option Value} {Y : ZS} {s : ZS} (hC : Zok ad D ia C d cX7_valueOfNumber 3 RX7 (some .int)) (k : Z l ad D ia C X Y 7 [(0, .ref (ad 16 0)), (1, .int 0), (2, .int ((s 16).1 3))] [] s) : Z l ad D ia C X Y 0 [(0, .ref (ad 16 0))] [] s := by
  refine Z_iconst (v := 0) hC dX7_valueOfNumber_0 rfl ?_
  refine Z_istore_n (V2 := [(1, .int 0), (0, .ref (ad 16 0))]) hC dX7_valueOfNumber_1 rfl (by decide) rfl ?_
  refine Z_aload_n hC dX7_valueOfNumber_2 rfl rfl ?_
  refine Z_get (o := 16) (c := 7) (k := 3) (v := .int ((s 16).1 3)) hC rfl zs_7 lkX7_19 rfl dX7_valueOfNumber_3 ?_
  refine Z_istore_n (V2 := [(2, .int ((s 16).1 3)), (1, .int 0), (0, .ref (ad 16 0))]) hC dX7_valueOfNumber_6 rfl (by decide) rfl ?_
  exact Z_pick [2, 1, 0] rfl k
theorem eX7_valueOfNumber {X : Option Value} {Y : ZS} {s : ZS} (k : ∀ C : ZC, Zok ad D ia C d cX7_valueOfNumber 3 RX7 (some .int) → Z l ad D ia C X Y 7 [(0, .ref (ad 16 0)), (1, .int 0), (2, .int ((s 16).1 3))] [] s) : Ev l ad D ia d mX7_valueOfNumber [.ref (ad 16 0)] s X Y :=
  Ev.start (by decide +kernel) (Nat.le_of_ble_eq_true rfl) (fun C hC => bX7_valueOfNumber_0  hC (k C hC))
set_option maxRecDepth 100000 in
set_option maxHeartbeats 4000000 in
theorem bX7_valueOfNumber_7 {x1 : Int32} {x2 : Int32} {C : ZC} {X : Option Value} {Y : ZS} {s : ZS} (hC : Zok ad D ia C d cX7_valueOfNumber 3 RX7 (some .int)) (k : ((((s 16).1 4) ≤ x2 → (X = some (.int x1) ∧ Y = s)) ∧ (¬ ((s 16).1 4) ≤ x2 → (vp_in x2 160 ∧ Z l ad D ia C X Y 7 [(0, .ref (ad 16 0)), (1, .int (((10 * x1) + ((s 16).2.2 0 x2.toNatClampNeg)) - 48)), (2, .int (x2 + 1))] [] s)))) : Z l ad D ia C X Y 7 [(0, .ref (ad 16 0)), (1, .int x1), (2, .int x2)] [] s := by
  refine Z_iload_n hC dX7_valueOfNumber_7 rfl rfl ?_
  refine Z_aload_n hC dX7_valueOfNumber_8 rfl rfl ?_
  refine Z_get (o := 16) (c := 7) (k := 4) (v := .int ((s 16).1 4)) hC rfl zs_7 lkX7_22 rfl dX7_valueOfNumber_9 ?_
  refine Z_icmp_ge (tgt := 36) hC dX7_valueOfNumber_12 (by decide) (fun c1 => ?_) (fun c1 => ?_)
  · have k := k.1 c1
    refine Z_iload_n hC dX7_valueOfNumber_36 rfl rfl ?_
    exact Z_iret hC dX7_valueOfNumber_37 k.1 k.2
  · have k := k.2 c1
    refine Z_bipush (v := 10) hC dX7_valueOfNumber_15 rfl ?_
    refine Z_iload_n hC dX7_valueOfNumber_17 rfl rfl ?_
    refine Z_imul hC dX7_valueOfNumber_18 ?_
    refine Z_aload_n hC dX7_valueOfNumber_19 rfl rfl ?_
    refine Z_get (o := 16) (c := 7) (k := 0) (v := .ref (ad 16 1)) hC rfl zs_7 lkX7_9 rfl dX7_valueOfNumber_20 ?_
    refine Z_iload_n hC dX7_valueOfNumber_23 rfl rfl ?_
    obtain ⟨h2, k⟩ := k
    refine Z_bald (o := 16) (k := 0) hC (zis_of rfl rfl) h2 dX7_valueOfNumber_24 ?_
    refine Z_iadd hC dX7_valueOfNumber_25 ?_
    refine Z_bipush (v := 48) hC dX7_valueOfNumber_26 rfl ?_
    refine Z_isub hC dX7_valueOfNumber_28 ?_
    refine Z_istore_n (V2 := [(1, .int (((10 * x1) + ((s 16).2.2 0 x2.toNatClampNeg)) - 48)), (0, .ref (ad 16 0)), (2, .int x2)]) hC dX7_valueOfNumber_29 rfl (by decide) rfl ?_
    refine Z_iinc (v := x2 + 1) (V2 := [(2, .int (x2 + 1)), (1, .int (((10 * x1) + ((s 16).2.2 0 x2.toNatClampNeg)) - 48)), (0, .ref (ad 16 0))]) hC dX7_valueOfNumber_30 rfl rfl (by decide) rfl ?_
    refine Z_goto (tgt := 7) hC dX7_valueOfNumber_33 (by decide) ?_
    exact Z_pick [2, 1, 0] rfl k
set_option maxRecDepth 100000 in
set_option maxHeartbeats 4000000 in
theorem bJ6_bitCount_0f7a4_0 {x0 : Int32} {C : ZC} {X : Option Value} {Y : ZS} {s : ZS} (hC : Zok ad D ia C d cJ6_bitCount_0f7a4 1 RJ6 (some .int)) (k : (X = some (.int ((((((((x0 - ((ushr x0 1) &&& ((1431655765)))) &&& ((858993459))) + ((ushr (x0 - ((ushr x0 1) &&& ((1431655765)))) 2) &&& ((858993459)))) + (ushr (((x0 - ((ushr x0 1) &&& ((1431655765)))) &&& ((858993459))) + ((ushr (x0 - ((ushr x0 1) &&& ((1431655765)))) 2) &&& ((858993459)))) 4)) &&& ((252645135))) + (ushr (((((x0 - ((ushr x0 1) &&& ((1431655765)))) &&& ((858993459))) + ((ushr (x0 - ((ushr x0 1) &&& ((1431655765)))) 2) &&& ((858993459)))) + (ushr (((x0 - ((ushr x0 1) &&& ((1431655765)))) &&& ((858993459))) + ((ushr (x0 - ((ushr x0 1) &&& ((1431655765)))) 2) &&& ((858993459)))) 4)) &&& ((252645135))) 8)) + (ushr ((((((x0 - ((ushr x0 1) &&& ((1431655765)))) &&& ((858993459))) + ((ushr (x0 - ((ushr x0 1) &&& ((1431655765)))) 2) &&& ((858993459)))) + (ushr (((x0 - ((ushr x0 1) &&& ((1431655765)))) &&& ((858993459))) + ((ushr (x0 - ((ushr x0 1) &&& ((1431655765)))) 2) &&& ((858993459)))) 4)) &&& ((252645135))) + (ushr (((((x0 - ((ushr x0 1) &&& ((1431655765)))) &&& ((858993459))) + ((ushr (x0 - ((ushr x0 1) &&& ((1431655765)))) 2) &&& ((858993459)))) + (ushr (((x0 - ((ushr x0 1) &&& ((1431655765)))) &&& ((858993459))) + ((ushr (x0 - ((ushr x0 1) &&& ((1431655765)))) 2) &&& ((858993459)))) 4)) &&& ((252645135))) 8)) 16)) &&& 63)) ∧ Y = s)) : Z l ad D ia C X Y 0 [(0, .int x0)] [] s := by
  refine Z_iload_n hC dJ6_bitCount_0f7a4_0 rfl rfl ?_
  refine Z_iload_n hC dJ6_bitCount_0f7a4_1 rfl rfl ?_
  refine Z_iconst (v := 1) hC dJ6_bitCount_0f7a4_2 rfl ?_
  refine Z_iushr2 hC dJ6_bitCount_0f7a4_3 ?_
  refine Z_ldcw hC cnJ6_265 dJ6_bitCount_0f7a4_4 ?_
  refine Z_iand hC dJ6_bitCount_0f7a4_7 ?_
  refine Z_isub hC dJ6_bitCount_0f7a4_8 ?_
  refine Z_istore_n (V2 := [(0, .int (x0 - ((ushr x0 1) &&& ((1431655765)))))]) hC dJ6_bitCount_0f7a4_9 rfl (by decide) rfl ?_
  refine Z_iload_n hC dJ6_bitCount_0f7a4_10 rfl rfl ?_
  refine Z_ldcw hC cnJ6_266 dJ6_bitCount_0f7a4_11 ?_
  refine Z_iand hC dJ6_bitCount_0f7a4_14 ?_
  refine Z_iload_n hC dJ6_bitCount_0f7a4_15 rfl rfl ?_
  refine Z_iconst (v := 2) hC dJ6_bitCount_0f7a4_16 rfl ?_
  refine Z_iushr2 hC dJ6_bitCount_0f7a4_17 ?_
  refine Z_ldcw hC cnJ6_266 dJ6_bitCount_0f7a4_18 ?_
  refine Z_iand hC dJ6_bitCount_0f7a4_21 ?_
  refine Z_iadd hC dJ6_bitCount_0f7a4_22 ?_
  refine Z_istore_n (V2 := [(0, .int (((x0 - ((ushr x0 1) &&& ((1431655765)))) &&& ((858993459))) + ((ushr (x0 - ((ushr x0 1) &&& ((1431655765)))) 2) &&& ((858993459)))))]) hC dJ6_bitCount_0f7a4_23 rfl (by decide) rfl ?_
  refine Z_iload_n hC dJ6_bitCount_0f7a4_24 rfl rfl ?_
  refine Z_iload_n hC dJ6_bitCount_0f7a4_25 rfl rfl ?_
  refine Z_iconst (v := 4) hC dJ6_bitCount_0f7a4_26 rfl ?_
  refine Z_iushr2 hC dJ6_bitCount_0f7a4_27 ?_
  refine Z_iadd hC dJ6_bitCount_0f7a4_28 ?_
  refine Z_ldcw hC cnJ6_267 dJ6_bitCount_0f7a4_29 ?_
  refine Z_iand hC dJ6_bitCount_0f7a4_32 ?_
  refine Z_istore_n (V2 := [(0, .int (((((x0 - ((ushr x0 1) &&& ((1431655765)))) &&& ((858993459))) + ((ushr (x0 - ((ushr x0 1) &&& ((1431655765)))) 2) &&& ((858993459)))) + (ushr (((x0 - ((ushr x0 1) &&& ((1431655765)))) &&& ((858993459))) + ((ushr (x0 - ((ushr x0 1) &&& ((1431655765)))) 2) &&& ((858993459)))) 4)) &&& ((252645135))))]) hC dJ6_bitCount_0f7a4_33 rfl (by decide) rfl ?_
  refine Z_iload_n hC dJ6_bitCount_0f7a4_34 rfl rfl ?_
  refine Z_iload_n hC dJ6_bitCount_0f7a4_35 rfl rfl ?_
  refine Z_bipush (v := 8) hC dJ6_bitCount_0f7a4_36 rfl ?_
  refine Z_iushr2 hC dJ6_bitCount_0f7a4_38 ?_
  refine Z_iadd hC dJ6_bitCount_0f7a4_39 ?_
  refine Z_istore_n (V2 := [(0, .int ((((((x0 - ((ushr x0 1) &&& ((1431655765)))) &&& ((858993459))) + ((ushr (x0 - ((ushr x0 1) &&& ((1431655765)))) 2) &&& ((858993459)))) + (ushr (((x0 - ((ushr x0 1) &&& ((1431655765)))) &&& ((858993459))) + ((ushr (x0 - ((ushr x0 1) &&& ((1431655765)))) 2) &&& ((858993459)))) 4)) &&& ((252645135))) + (ushr (((((x0 - ((ushr x0 1) &&& ((1431655765)))) &&& ((858993459))) + ((ushr (x0 - ((ushr x0 1) &&& ((1431655765)))) 2) &&& ((858993459)))) + (ushr (((x0 - ((ushr x0 1) &&& ((1431655765)))) &&& ((858993459))) + ((ushr (x0 - ((ushr x0 1) &&& ((1431655765)))) 2) &&& ((858993459)))) 4)) &&& ((252645135))) 8)))]) hC dJ6_bitCount_0f7a4_40 rfl (by decide) rfl ?_
  refine Z_iload_n hC dJ6_bitCount_0f7a4_41 rfl rfl ?_
  refine Z_iload_n hC dJ6_bitCount_0f7a4_42 rfl rfl ?_
  refine Z_bipush (v := 16) hC dJ6_bitCount_0f7a4_43 rfl ?_
  refine Z_iushr2 hC dJ6_bitCount_0f7a4_45 ?_
  refine Z_iadd hC dJ6_bitCount_0f7a4_46 ?_
  refine Z_istore_n (V2 := [(0, .int (((((((x0 - ((ushr x0 1) &&& ((1431655765)))) &&& ((858993459))) + ((ushr (x0 - ((ushr x0 1) &&& ((1431655765)))) 2) &&& ((858993459)))) + (ushr (((x0 - ((ushr x0 1) &&& ((1431655765)))) &&& ((858993459))) + ((ushr (x0 - ((ushr x0 1) &&& ((1431655765)))) 2) &&& ((858993459)))) 4)) &&& ((252645135))) + (ushr (((((x0 - ((ushr x0 1) &&& ((1431655765)))) &&& ((858993459))) + ((ushr (x0 - ((ushr x0 1) &&& ((1431655765)))) 2) &&& ((858993459)))) + (ushr (((x0 - ((ushr x0 1) &&& ((1431655765)))) &&& ((858993459))) + ((ushr (x0 - ((ushr x0 1) &&& ((1431655765)))) 2) &&& ((858993459)))) 4)) &&& ((252645135))) 8)) + (ushr ((((((x0 - ((ushr x0 1) &&& ((1431655765)))) &&& ((858993459))) + ((ushr (x0 - ((ushr x0 1) &&& ((1431655765)))) 2) &&& ((858993459)))) + (ushr (((x0 - ((ushr x0 1) &&& ((1431655765)))) &&& ((858993459))) + ((ushr (x0 - ((ushr x0 1) &&& ((1431655765)))) 2) &&& ((858993459)))) 4)) &&& ((252645135))) + (ushr (((((x0 - ((ushr x0 1) &&& ((1431655765)))) &&& ((858993459))) + ((ushr (x0 - ((ushr x0 1) &&& ((1431655765)))) 2) &&& ((858993459)))) + (ushr (((x0 - ((ushr x0 1) &&& ((1431655765)))) &&& ((858993459))) + ((ushr (x0 - ((ushr x0 1) &&& ((1431655765)))) 2) &&& ((858993459)))) 4)) &&& ((252645135))) 8)) 16)))]) hC dJ6_bitCount_0f7a4_47 rfl (by decide) rfl ?_
  refine Z_iload_n hC dJ6_bitCount_0f7a4_48 rfl rfl ?_
  refine Z_bipush (v := 63) hC dJ6_bitCount_0f7a4_49 rfl ?_
  refine Z_iand hC dJ6_bitCount_0f7a4_51 ?_
  exact Z_iret hC dJ6_bitCount_0f7a4_52 k.1 k.2
theorem eJ6_bitCount_0f7a4 {x0 : Int32} {X : Option Value} {Y : ZS} {s : ZS} (k : (X = some (.int ((((((((x0 - ((ushr x0 1) &&& ((1431655765)))) &&& ((858993459))) + ((ushr (x0 - ((ushr x0 1) &&& ((1431655765)))) 2) &&& ((858993459)))) + (ushr (((x0 - ((ushr x0 1) &&& ((1431655765)))) &&& ((858993459))) + ((ushr (x0 - ((ushr x0 1) &&& ((1431655765)))) 2) &&& ((858993459)))) 4)) &&& ((252645135))) + (ushr (((((x0 - ((ushr x0 1) &&& ((1431655765)))) &&& ((858993459))) + ((ushr (x0 - ((ushr x0 1) &&& ((1431655765)))) 2) &&& ((858993459)))) + (ushr (((x0 - ((ushr x0 1) &&& ((1431655765)))) &&& ((858993459))) + ((ushr (x0 - ((ushr x0 1) &&& ((1431655765)))) 2) &&& ((858993459)))) 4)) &&& ((252645135))) 8)) + (ushr ((((((x0 - ((ushr x0 1) &&& ((1431655765)))) &&& ((858993459))) + ((ushr (x0 - ((ushr x0 1) &&& ((1431655765)))) 2) &&& ((858993459)))) + (ushr (((x0 - ((ushr x0 1) &&& ((1431655765)))) &&& ((858993459))) + ((ushr (x0 - ((ushr x0 1) &&& ((1431655765)))) 2) &&& ((858993459)))) 4)) &&& ((252645135))) + (ushr (((((x0 - ((ushr x0 1) &&& ((1431655765)))) &&& ((858993459))) + ((ushr (x0 - ((ushr x0 1) &&& ((1431655765)))) 2) &&& ((858993459)))) + (ushr (((x0 - ((ushr x0 1) &&& ((1431655765)))) &&& ((858993459))) + ((ushr (x0 - ((ushr x0 1) &&& ((1431655765)))) 2) &&& ((858993459)))) 4)) &&& ((252645135))) 8)) 16)) &&& 63)) ∧ Y = s)) : Ev l ad D ia d mJ6_bitCount_0f7a4 [.int x0] s X Y :=
  Ev.start (by decide +kernel) (Nat.le_of_ble_eq_true rfl) (fun C hC => bJ6_bitCount_0f7a4_0  hC k)
end ZL
