def mJ0_coder_7d493 : ZM := (yJ0_coder_7d493, cJ0_coder_7d493, 1, some .byte)
def mJ0_isLatin1_aae02 : ZM := (yJ0_isLatin1_aae02, cJ0_isLatin1_aae02, 1, some .boolean)
def mJ0_length_8abf5 : ZM := (yJ0_length_8abf5, cJ0_length_8abf5, 1, some .int)
def mJ0_checkIndex_df160 : ZM := (yJ0_checkIndex_df160, cJ0_checkIndex_df160, 2, none)
def mJ1_charAt_3b067 : ZM := (yJ1_charAt_3b067, cJ1_charAt_3b067, 2, some .char)
def mJ2_charAt_3b067 : ZM := (yJ2_charAt_3b067, cJ2_charAt_3b067, 2, some .char)
def mJ0_charAt_5068e : ZM := (yJ0_charAt_5068e, cJ0_charAt_5068e, 2, some .char)
def mX7_isWord : ZM := (yX7_isWord, cX7_isWord, 3, some .boolean)
def mJ3_checkIndex_8e157 : ZM := (yJ3_checkIndex_8e157, cJ3_checkIndex_8e157, 3, some .int)
theorem fkJ0_38 : Cond.fieldLink "java/lang/String" 38 "java/lang/String" "COMPACT_STRINGS" "Z" ∈ WL := (wlm 413 (by decide +kernel) (by decide +kernel))
theorem fkJ0_15 : Cond.fieldLink "java/lang/String" 15 "java/lang/String" "coder" "B" ∈ WL := (wlm 1334 (by decide +kernel) (by decide +kernel))
theorem fkJ0_9 : Cond.fieldLink "java/lang/String" 9 "java/lang/String" "value" "[B" ∈ WL := (wlm 1333 (by decide +kernel) (by decide +kernel))
theorem cvJ0_335 : zcV RJ0 335 mJ0_coder_7d493 0 := ⟨⟨(wlm 409 (by decide +kernel) (by decide +kernel)), (wlm 410 (by decide +kernel) (by decide +kernel)), (wlm 411 (by decide +kernel) (by decide +kernel)), (wlm 64 (by decide +kernel) (by decide +kernel)), (wlm 412 (by decide +kernel) (by decide +kernel))⟩, ⟨by decide +kernel, by decide +kernel, by decide +kernel⟩, by decide⟩
theorem csJ1_9 : zcS RJ1 9 mJ0_checkIndex_df160 2 := ⟨⟨(wlm 426 (by decide +kernel) (by decide +kernel)), (wlm 427 (by decide +kernel) (by decide +kernel)), (wlm 64 (by decide +kernel) (by decide +kernel)), (wlm 428 (by decide +kernel) (by decide +kernel))⟩, ⟨by decide +kernel, by decide +kernel, by decide +kernel⟩, by decide⟩
theorem cvJ0_492 : zcV RJ0 492 mJ0_isLatin1_aae02 0 := ⟨⟨(wlm 419 (by decide +kernel) (by decide +kernel)), (wlm 420 (by decide +kernel) (by decide +kernel)), (wlm 421 (by decide +kernel) (by decide +kernel)), (wlm 64 (by decide +kernel) (by decide +kernel)), (wlm 422 (by decide +kernel) (by decide +kernel))⟩, ⟨by decide +kernel, by decide +kernel, by decide +kernel⟩, by decide⟩
theorem csJ0_498 : zcS RJ0 498 mJ2_charAt_3b067 2 := ⟨⟨(wlm 434 (by decide +kernel) (by decide +kernel)), (wlm 435 (by decide +kernel) (by decide +kernel)), (wlm 67 (by decide +kernel) (by decide +kernel)), (wlm 436 (by decide +kernel) (by decide +kernel))⟩, ⟨by decide +kernel, by decide +kernel, by decide +kernel⟩, by decide⟩
theorem csJ0_495 : zcS RJ0 495 mJ1_charAt_3b067 2 := ⟨⟨(wlm 423 (by decide +kernel) (by decide +kernel)), (wlm 424 (by decide +kernel) (by decide +kernel)), (wlm 65 (by decide +kernel) (by decide +kernel)), (wlm 425 (by decide +kernel) (by decide +kernel))⟩, ⟨by decide +kernel, by decide +kernel, by decide +kernel⟩, by decide⟩
theorem cvX7_32 : zcV RX7 32 mJ0_length_8abf5 0 := ⟨⟨(wlm 405 (by decide +kernel) (by decide +kernel)), (wlm 406 (by decide +kernel) (by decide +kernel)), (wlm 407 (by decide +kernel) (by decide +kernel)), (wlm 64 (by decide +kernel) (by decide +kernel)), (wlm 408 (by decide +kernel) (by decide +kernel))⟩, ⟨by decide +kernel, by decide +kernel, by decide +kernel⟩, by decide⟩
theorem cvX7_37 : zcV RX7 37 mJ0_charAt_5068e 1 := ⟨⟨(wlm 415 (by decide +kernel) (by decide +kernel)), (wlm 416 (by decide +kernel) (by decide +kernel)), (wlm 417 (by decide +kernel) (by decide +kernel)), (wlm 64 (by decide +kernel) (by decide +kernel)), (wlm 418 (by decide +kernel) (by decide +kernel))⟩, ⟨by decide +kernel, by decide +kernel, by decide +kernel⟩, by decide⟩
theorem cvX3_70 : zcV RX3 70 mX7_isWord 1 := ⟨⟨(wlm 401 (by decide +kernel) (by decide +kernel)), (wlm 402 (by decide +kernel) (by decide +kernel)), (wlm 403 (by decide +kernel) (by decide +kernel)), (wlm 57 (by decide +kernel) (by decide +kernel)), (wlm 404 (by decide +kernel) (by decide +kernel))⟩, ⟨by decide +kernel, by decide +kernel, by decide +kernel⟩, by decide⟩
theorem cvX3_91 : zcV RX3 91 mX3_parseSteps 0 := ⟨⟨(wlm 491 (by decide +kernel) (by decide +kernel)), (wlm 493 (by decide +kernel) (by decide +kernel)), (wlm 7 (by decide +kernel) (by decide +kernel)), (wlm 56 (by decide +kernel) (by decide +kernel)), (wlm 494 (by decide +kernel) (by decide +kernel))⟩, ⟨by decide +kernel, by decide +kernel, by decide +kernel⟩, by decide⟩
theorem cvX3_79 : zcV RX3 79 mX3_parseReader 1 := ⟨⟨(wlm 479 (by decide +kernel) (by decide +kernel)), (wlm 481 (by decide +kernel) (by decide +kernel)), (wlm 6 (by decide +kernel) (by decide +kernel)), (wlm 56 (by decide +kernel) (by decide +kernel)), (wlm 482 (by decide +kernel) (by decide +kernel))⟩, ⟨by decide +kernel, by decide +kernel, by decide +kernel⟩, by decide⟩
theorem cvX3_74 : zcV RX3 74 mX3_parseBook 0 := ⟨⟨(wlm 453 (by decide +kernel) (by decide +kernel)), (wlm 455 (by decide +kernel) (by decide +kernel)), (wlm 2 (by decide +kernel) (by decide +kernel)), (wlm 56 (by decide +kernel) (by decide +kernel)), (wlm 456 (by decide +kernel) (by decide +kernel))⟩, ⟨by decide +kernel, by decide +kernel, by decide +kernel⟩, by decide⟩
theorem lkX3_32 : zlk RX3 32 3 2 := ⟨_, rfl, inWX3, by decide, (wlm 194 (by decide +kernel) (by decide +kernel))⟩
theorem fkJ0_1053 : Cond.fieldLink "java/lang/String" 1053 "jdk/internal/util/Preconditions" "SIOOBE_FORMATTER" "Ljava/util/function/BiFunction;" ∈ WL := (wlm 429 (by decide +kernel) (by decide +kernel))
theorem csJ0_1059 : zcS RJ0 1059 mJ3_checkIndex_8e157 3 := ⟨⟨(wlm 431 (by decide +kernel) (by decide +kernel)), (wlm 432 (by decide +kernel) (by decide +kernel)), (wlm 66 (by decide +kernel) (by decide +kernel)), (wlm 433 (by decide +kernel) (by decide +kernel))⟩, ⟨by decide +kernel, by decide +kernel, by decide +kernel⟩, by decide⟩
section ZL
variable {l : Launch} {ad : ZA} {D : va_G} {ia : Nat → ClassId} {d : Nat}
set_option maxRecDepth 100000 in
set_option maxHeartbeats 4000000 in
theorem bJ0_coder_7d493_0 {si : Nat} (hsi : si < 6) {C : ZC} {X : Option Value} {Y : ZS} {s : ZS} (hC : Zok ad D ia C d cJ0_coder_7d493 1 RJ0 (some .byte)) (k : (((1 : Int32) = 0 → (narrow .byte (.int 1) = .int 1 ∧ X = some (.int 1) ∧ Y = s)) ∧ (¬ (1 : Int32) = 0 → (narrow .byte (.int 0) = .int 0 ∧ X = some (.int 0) ∧ Y = s)))) : Z l ad D ia C X Y 0 [(0, .ref (ad 30 si))] [] s := by
  refine Z_getsC hC fkJ0_38 dJ0_coder_7d493_0 ?_
  refine Z_if_eq (tgt := 13) hC dJ0_coder_7d493_3 (by decide) (fun c1 => ?_) (fun c1 => ?_)
  · have k := k.1 c1
    refine Z_iconst (v := 1) hC dJ0_coder_7d493_13 rfl ?_
    exact Z_nret hC dJ0_coder_7d493_14 k.1 k.2.1 k.2.2
  · have k := k.2 c1
    refine Z_aload_n hC dJ0_coder_7d493_6 rfl rfl ?_
    refine Z_getC hC hsi fkJ0_15 dJ0_coder_7d493_7 ?_
    refine Z_goto (tgt := 14) hC dJ0_coder_7d493_10 (by decide) ?_
    exact Z_nret hC dJ0_coder_7d493_14 k.1 k.2.1 k.2.2
theorem eJ0_coder_7d493 {si : Nat} (hsi : si < 6) {X : Option Value} {Y : ZS} {s : ZS} (k : (((1 : Int32) = 0 → (narrow .byte (.int 1) = .int 1 ∧ X = some (.int 1) ∧ Y = s)) ∧ (¬ (1 : Int32) = 0 → (narrow .byte (.int 0) = .int 0 ∧ X = some (.int 0) ∧ Y = s)))) : Ev l ad D ia d mJ0_coder_7d493 [.ref (ad 30 si)] s X Y :=
  Ev.start (by decide +kernel) (Nat.le_of_ble_eq_true rfl) (fun C hC => bJ0_coder_7d493_0 hsi hC k)
set_option maxRecDepth 100000 in
set_option maxHeartbeats 4000000 in
theorem bJ0_isLatin1_aae02_0 {si : Nat} (hsi : si < 6) {C : ZC} {X : Option Value} {Y : ZS} {s : ZS} (hC : Zok ad D ia C d cJ0_isLatin1_aae02 1 RJ0 (some .boolean)) (k : (((1 : Int32) = 0 → (X = some (.int 0) ∧ Y = s)) ∧ (¬ (1 : Int32) = 0 → ((¬ (0 : Int32) = 0 → (X = some (.int 0) ∧ Y = s)) ∧ ((0 : Int32) = 0 → (X = some (.int 1) ∧ Y = s)))))) : Z l ad D ia C X Y 0 [(0, .ref (ad 30 si))] [] s := by
  refine Z_getsC hC fkJ0_38 dJ0_isLatin1_aae02_0 ?_
  refine Z_if_eq (tgt := 17) hC dJ0_isLatin1_aae02_3 (by decide) (fun c1 => ?_) (fun c1 => ?_)
  · have k := k.1 c1
    refine Z_iconst (v := 0) hC dJ0_isLatin1_aae02_17 rfl ?_
    exact Z_zret hC dJ0_isLatin1_aae02_18 rfl k.1 k.2
  · have k := k.2 c1
    refine Z_aload_n hC dJ0_isLatin1_aae02_6 rfl rfl ?_
    refine Z_getC hC hsi fkJ0_15 dJ0_isLatin1_aae02_7 ?_
    refine Z_if_ne (tgt := 17) hC dJ0_isLatin1_aae02_10 (by decide) (fun c2 => ?_) (fun c2 => ?_)
    · have k := k.1 c2
      refine Z_iconst (v := 0) hC dJ0_isLatin1_aae02_17 rfl ?_
      exact Z_zret hC dJ0_isLatin1_aae02_18 rfl k.1 k.2
    · have k := k.2 c2
      refine Z_iconst (v := 1) hC dJ0_isLatin1_aae02_13 rfl ?_
      refine Z_goto (tgt := 18) hC dJ0_isLatin1_aae02_14 (by decide) ?_
      exact Z_zret hC dJ0_isLatin1_aae02_18 rfl k.1 k.2
theorem eJ0_isLatin1_aae02 {si : Nat} (hsi : si < 6) {X : Option Value} {Y : ZS} {s : ZS} (k : (((1 : Int32) = 0 → (X = some (.int 0) ∧ Y = s)) ∧ (¬ (1 : Int32) = 0 → ((¬ (0 : Int32) = 0 → (X = some (.int 0) ∧ Y = s)) ∧ ((0 : Int32) = 0 → (X = some (.int 1) ∧ Y = s)))))) : Ev l ad D ia d mJ0_isLatin1_aae02 [.ref (ad 30 si)] s X Y :=
  Ev.start (by decide +kernel) (Nat.le_of_ble_eq_true rfl) (fun C hC => bJ0_isLatin1_aae02_0 hsi hC k)
set_option maxRecDepth 100000 in
set_option maxHeartbeats 4000000 in
theorem bJ0_length_8abf5_0 {si : Nat} (hsi : si < 6) {C : ZC} {X : Option Value} {Y : ZS} {s : ZS} (hC : Zok ad D ia C (d + 1) cJ0_length_8abf5 1 RJ0 (some .int)) (k : (∃ (r2 : Int32) (s1 : ZS), Ev l ad D ia d mJ0_coder_7d493 [.ref (ad 30 si)] s (some (.int r2)) s1 ∧ (X = some (.int ((nI (zsl.getD si 0)) >>> (r2 &&& 31))) ∧ Y = s1))) : Z l ad D ia C X Y 0 [(0, .ref (ad 30 si))] [] s := by
  refine Z_aload_n hC dJ0_length_8abf5_0 rfl rfl ?_
  refine Z_getV hC hsi fkJ0_9 dJ0_length_8abf5_1 ?_
  refine Z_alenS hC hsi dJ0_length_8abf5_4 ?_
  refine Z_aload_n hC dJ0_length_8abf5_5 rfl rfl ?_
  obtain ⟨r2, s1, h3, k⟩ := k
  refine Z_callT (As := []) (rest := [.int (nI (zsl.getD si 0))]) hC hsi rfl h3 cvJ0_335 rfl rfl (Nat.le_of_ble_eq_true rfl) dJ0_length_8abf5_6 ?_
  refine Z_ishr hC dJ0_length_8abf5_9 ?_
  exact Z_iret hC dJ0_length_8abf5_10 k.1 k.2
theorem eJ0_length_8abf5 {si : Nat} (hsi : si < 6) {X : Option Value} {Y : ZS} {s : ZS} (k : (∃ (r2 : Int32) (s1 : ZS), Ev l ad D ia d mJ0_coder_7d493 [.ref (ad 30 si)] s (some (.int r2)) s1 ∧ (X = some (.int ((nI (zsl.getD si 0)) >>> (r2 &&& 31))) ∧ Y = s1))) : Ev l ad D ia (d + 1) mJ0_length_8abf5 [.ref (ad 30 si)] s X Y :=
  Ev.start (by decide +kernel) (Nat.le_of_ble_eq_true rfl) (fun C hC => bJ0_length_8abf5_0 hsi hC k)
set_option maxRecDepth 100000 in
set_option maxHeartbeats 4000000 in
theorem bJ1_charAt_3b067_0 {si : Nat} (hsi : si < 6) {x1 : Int32} {C : ZC} {X : Option Value} {Y : ZS} {s : ZS} (hC : Zok ad D ia C (d + 1) cJ1_charAt_3b067 2 RJ1 (some .char)) (k : (∃ s1 : ZS, Ev l ad D ia d mJ0_checkIndex_df160 [.int x1, .int (nI (zsl.getD si 0))] s none s1 ∧ (vp_in x1 (zsl.getD si 0) ∧ (narrow .char (.int (((((zsb.getD si []).getD x1.toNatClampNeg 0) &&& 255).toUInt32 % 65536).toInt32)) = .int (((((zsb.getD si []).getD x1.toNatClampNeg 0) &&& 255).toUInt32 % 65536).toInt32) ∧ X = some (.int (((((zsb.getD si []).getD x1.toNatClampNeg 0) &&& 255).toUInt32 % 65536).toInt32)) ∧ Y = s1)))) : Z l ad D ia C X Y 0 [(0, .ref (ad 31 si)), (1, .int x1)] [] s := by
  refine Z_iload_n hC dJ1_charAt_3b067_0 rfl rfl ?_
  refine Z_aload_n hC dJ1_charAt_3b067_1 rfl rfl ?_
  refine Z_alenS hC hsi dJ1_charAt_3b067_2 ?_
  obtain ⟨s1, h2, k⟩ := k
  refine Z_callS (As := [.int x1, .int (nI (zsl.getD si 0))]) (rest := []) hC h2 csJ1_9 rfl rfl (Nat.le_of_ble_eq_true rfl) dJ1_charAt_3b067_3 ?_
  refine Z_aload_n hC dJ1_charAt_3b067_6 rfl rfl ?_
  refine Z_iload_n hC dJ1_charAt_3b067_7 rfl rfl ?_
  obtain ⟨h3, k⟩ := k
  refine Z_baldS hC hsi h3 dJ1_charAt_3b067_8 ?_
  refine Z_sipush (v := 255) hC dJ1_charAt_3b067_9 rfl ?_
  refine Z_iand hC dJ1_charAt_3b067_12 ?_
  refine Z_i2c hC dJ1_charAt_3b067_13 ?_
  exact Z_nret hC dJ1_charAt_3b067_14 k.1 k.2.1 k.2.2
theorem eJ1_charAt_3b067 {si : Nat} (hsi : si < 6) {x1 : Int32} {X : Option Value} {Y : ZS} {s : ZS} (k : (∃ s1 : ZS, Ev l ad D ia d mJ0_checkIndex_df160 [.int x1, .int (nI (zsl.getD si 0))] s none s1 ∧ (vp_in x1 (zsl.getD si 0) ∧ (narrow .char (.int (((((zsb.getD si []).getD x1.toNatClampNeg 0) &&& 255).toUInt32 % 65536).toInt32)) = .int (((((zsb.getD si []).getD x1.toNatClampNeg 0) &&& 255).toUInt32 % 65536).toInt32) ∧ X = some (.int (((((zsb.getD si []).getD x1.toNatClampNeg 0) &&& 255).toUInt32 % 65536).toInt32)) ∧ Y = s1)))) : Ev l ad D ia (d + 1) mJ1_charAt_3b067 [.ref (ad 31 si), .int x1] s X Y :=
  Ev.start (by decide +kernel) (Nat.le_of_ble_eq_true rfl) (fun C hC => bJ1_charAt_3b067_0 hsi hC k)
set_option maxRecDepth 100000 in
set_option maxHeartbeats 4000000 in
theorem bJ0_charAt_5068e_0 {si : Nat} (hsi : si < 6) {x1 : Int32} {C : ZC} {X : Option Value} {Y : ZS} {s : ZS} (hC : Zok ad D ia C (d + 1) cJ0_charAt_5068e 2 RJ0 (some .char)) (k : (∃ (r2 : Int32) (s1 : ZS), Ev l ad D ia d mJ0_isLatin1_aae02 [.ref (ad 30 si)] s (some (.int r2)) s1 ∧ ((r2 = 0 → (∃ (r6 : Int32) (s5 : ZS), Ev l ad D ia d mJ2_charAt_3b067 [.ref (ad 31 si), .int x1] s1 (some (.int r6)) s5 ∧ (narrow .char (.int r6) = .int r6 ∧ X = some (.int r6) ∧ Y = s5))) ∧ (¬ r2 = 0 → (∃ (r9 : Int32) (s8 : ZS), Ev l ad D ia d mJ1_charAt_3b067 [.ref (ad 31 si), .int x1] s1 (some (.int r9)) s8 ∧ (narrow .char (.int r9) = .int r9 ∧ X = some (.int r9) ∧ Y = s8)))))) : Z l ad D ia C X Y 0 [(0, .ref (ad 30 si)), (1, .int x1)] [] s := by
  refine Z_aload_n hC dJ0_charAt_5068e_0 rfl rfl ?_
  obtain ⟨r2, s1, h3, k⟩ := k
  refine Z_callT (As := []) (rest := []) hC hsi rfl h3 cvJ0_492 rfl rfl (Nat.le_of_ble_eq_true rfl) dJ0_charAt_5068e_1 ?_
  refine Z_if_eq (tgt := 16) hC dJ0_charAt_5068e_4 (by decide) (fun c4 => ?_) (fun c4 => ?_)
  · have k := k.1 c4
    refine Z_aload_n hC dJ0_charAt_5068e_16 rfl rfl ?_
    refine Z_getV hC hsi fkJ0_9 dJ0_charAt_5068e_17 ?_
    refine Z_iload_n hC dJ0_charAt_5068e_20 rfl rfl ?_
    obtain ⟨r6, s5, h7, k⟩ := k
    refine Z_callS (As := [.ref (ad 31 si), .int x1]) (rest := []) hC h7 csJ0_498 rfl rfl (Nat.le_of_ble_eq_true rfl) dJ0_charAt_5068e_21 ?_
    exact Z_nret hC dJ0_charAt_5068e_24 k.1 k.2.1 k.2.2
  · have k := k.2 c4
    refine Z_aload_n hC dJ0_charAt_5068e_7 rfl rfl ?_
    refine Z_getV hC hsi fkJ0_9 dJ0_charAt_5068e_8 ?_
    refine Z_iload_n hC dJ0_charAt_5068e_11 rfl rfl ?_
    obtain ⟨r9, s8, h10, k⟩ := k
    refine Z_callS (As := [.ref (ad 31 si), .int x1]) (rest := []) hC h10 csJ0_495 rfl rfl (Nat.le_of_ble_eq_true rfl) dJ0_charAt_5068e_12 ?_
    exact Z_nret hC dJ0_charAt_5068e_15 k.1 k.2.1 k.2.2
theorem eJ0_charAt_5068e {si : Nat} (hsi : si < 6) {x1 : Int32} {X : Option Value} {Y : ZS} {s : ZS} (k : (∃ (r2 : Int32) (s1 : ZS), Ev l ad D ia d mJ0_isLatin1_aae02 [.ref (ad 30 si)] s (some (.int r2)) s1 ∧ ((r2 = 0 → (∃ (r6 : Int32) (s5 : ZS), Ev l ad D ia d mJ2_charAt_3b067 [.ref (ad 31 si), .int x1] s1 (some (.int r6)) s5 ∧ (narrow .char (.int r6) = .int r6 ∧ X = some (.int r6) ∧ Y = s5))) ∧ (¬ r2 = 0 → (∃ (r9 : Int32) (s8 : ZS), Ev l ad D ia d mJ1_charAt_3b067 [.ref (ad 31 si), .int x1] s1 (some (.int r9)) s8 ∧ (narrow .char (.int r9) = .int r9 ∧ X = some (.int r9) ∧ Y = s8)))))) : Ev l ad D ia (d + 1) mJ0_charAt_5068e [.ref (ad 30 si), .int x1] s X Y :=
  Ev.start (by decide +kernel) (Nat.le_of_ble_eq_true rfl) (fun C hC => bJ0_charAt_5068e_0 hsi hC k)
set_option maxRecDepth 100000 in
set_option maxHeartbeats 4000000 in
theorem bX7_isWord_0 {si : Nat} (hsi : si < 6) {C : ZC} {X : Option Value} {Y : ZS} {s : ZS} (hC : Zok ad D ia C (d + 1) cX7_isWord 3 RX7 (some .boolean)) (k : ((¬ ((s 16).1 2) = 1 → (X = some (.int 0) ∧ Y = s)) ∧ (((s 16).1 2) = 1 → (∃ (r3 : Int32) (s2 : ZS), Ev l ad D ia d mJ0_length_8abf5 [.ref (ad 30 si)] s (some (.int r3)) s2 ∧ (((((s 16).1 4) - ((s 16).1 3)) = r3 → Z l ad D ia C X Y 28 [(0, .ref (ad 16 0)), (1, .ref (ad 30 si)), (2, .int 0)] [] s2) ∧ (¬ (((s 16).1 4) - ((s 16).1 3)) = r3 → (X = some (.int 0) ∧ Y = s2))))))) : Z l ad D ia C X Y 0 [(0, .ref (ad 16 0)), (1, .ref (ad 30 si))] [] s := by
  refine Z_aload_n hC dX7_isWord_0 rfl rfl ?_
  refine Z_get (o := 16) (c := 7) (k := 2) (v := .int ((s 16).1 2)) hC rfl zs_7 lkX7_15 rfl dX7_isWord_1 ?_
  refine Z_iconst (v := 1) hC dX7_isWord_4 rfl ?_
  refine Z_icmp_ne (tgt := 24) hC dX7_isWord_5 (by decide) (fun c1 => ?_) (fun c1 => ?_)
  · have k := k.1 c1
    refine Z_iconst (v := 0) hC dX7_isWord_24 rfl ?_
    exact Z_zret hC dX7_isWord_25 rfl k.1 k.2
  · have k := k.2 c1
    refine Z_aload_n hC dX7_isWord_8 rfl rfl ?_
    refine Z_get (o := 16) (c := 7) (k := 4) (v := .int ((s 16).1 4)) hC rfl zs_7 lkX7_22 rfl dX7_isWord_9 ?_
    refine Z_aload_n hC dX7_isWord_12 rfl rfl ?_
    refine Z_get (o := 16) (c := 7) (k := 3) (v := .int ((s 16).1 3)) hC rfl zs_7 lkX7_19 rfl dX7_isWord_13 ?_
    refine Z_isub hC dX7_isWord_16 ?_
    refine Z_aload_n hC dX7_isWord_17 rfl rfl ?_
    obtain ⟨r3, s2, h4, k⟩ := k
    refine Z_callT (As := []) (rest := [.int (((s 16).1 4) - ((s 16).1 3))]) hC hsi rfl h4 cvX7_32 rfl rfl (Nat.le_of_ble_eq_true rfl) dX7_isWord_18 ?_
    refine Z_icmp_eq (tgt := 26) hC dX7_isWord_21 (by decide) (fun c5 => ?_) (fun c5 => ?_)
    · have k := k.1 c5
      refine Z_iconst (v := 0) hC dX7_isWord_26 rfl ?_
      refine Z_istore_n (V2 := [(2, .int 0), (0, .ref (ad 16 0)), (1, .ref (ad 30 si))]) hC dX7_isWord_27 rfl (by decide) rfl ?_
      exact Z_pick [1, 2, 0] rfl k
    · have k := k.2 c5
      refine Z_iconst (v := 0) hC dX7_isWord_24 rfl ?_
      exact Z_zret hC dX7_isWord_25 rfl k.1 k.2
theorem eX7_isWord {si : Nat} (hsi : si < 6) {X : Option Value} {Y : ZS} {s : ZS} (k : ∀ C : ZC, Zok ad D ia C (d + 1) cX7_isWord 3 RX7 (some .boolean) → ((¬ ((s 16).1 2) = 1 → (X = some (.int 0) ∧ Y = s)) ∧ (((s 16).1 2) = 1 → (∃ (r3 : Int32) (s2 : ZS), Ev l ad D ia d mJ0_length_8abf5 [.ref (ad 30 si)] s (some (.int r3)) s2 ∧ (((((s 16).1 4) - ((s 16).1 3)) = r3 → Z l ad D ia C X Y 28 [(0, .ref (ad 16 0)), (1, .ref (ad 30 si)), (2, .int 0)] [] s2) ∧ (¬ (((s 16).1 4) - ((s 16).1 3)) = r3 → (X = some (.int 0) ∧ Y = s2))))))) : Ev l ad D ia (d + 1) mX7_isWord [.ref (ad 16 0), .ref (ad 30 si)] s X Y :=
  Ev.start (by decide +kernel) (Nat.le_of_ble_eq_true rfl) (fun C hC => bX7_isWord_0 hsi hC (k C hC))
set_option maxRecDepth 100000 in
set_option maxHeartbeats 4000000 in
theorem bX7_isWord_28 {si : Nat} (hsi : si < 6) {x2 : Int32} {C : ZC} {X : Option Value} {Y : ZS} {s : ZS} (hC : Zok ad D ia C (d + 1) cX7_isWord 3 RX7 (some .boolean)) (k : (∃ (r2 : Int32) (s1 : ZS), Ev l ad D ia d mJ0_length_8abf5 [.ref (ad 30 si)] s (some (.int r2)) s1 ∧ ((r2 ≤ x2 → (X = some (.int 1) ∧ Y = s1)) ∧ (¬ r2 ≤ x2 → (vp_in (((s1 16).1 3) + x2) 160 ∧ (∃ (r7 : Int32) (s6 : ZS), Ev l ad D ia d mJ0_charAt_5068e [.ref (ad 30 si), .int x2] s1 (some (.int r7)) s6 ∧ ((((s1 16).2.2 0 (((s1 16).1 3) + x2).toNatClampNeg) = r7 → Z l ad D ia C X Y 28 [(0, .ref (ad 16 0)), (1, .ref (ad 30 si)), (2, .int (x2 + 1))] [] s6) ∧ (¬ ((s1 16).2.2 0 (((s1 16).1 3) + x2).toNatClampNeg) = r7 → (X = some (.int 0) ∧ Y = s6))))))))) : Z l ad D ia C X Y 28 [(0, .ref (ad 16 0)), (1, .ref (ad 30 si)), (2, .int x2)] [] s := by
  refine Z_iload_n hC dX7_isWord_28 rfl rfl ?_
  refine Z_aload_n hC dX7_isWord_29 rfl rfl ?_
  obtain ⟨r2, s1, h3, k⟩ := k
  refine Z_callT (As := []) (rest := [.int x2]) hC hsi rfl h3 cvX7_32 rfl rfl (Nat.le_of_ble_eq_true rfl) dX7_isWord_30 ?_
  refine Z_icmp_ge (tgt := 63) hC dX7_isWord_33 (by decide) (fun c4 => ?_) (fun c4 => ?_)
  · have k := k.1 c4
    refine Z_iconst (v := 1) hC dX7_isWord_63 rfl ?_
    exact Z_zret hC dX7_isWord_64 rfl k.1 k.2
  · have k := k.2 c4
    refine Z_aload_n hC dX7_isWord_36 rfl rfl ?_
    refine Z_get (o := 16) (c := 7) (k := 0) (v := .ref (ad 16 1)) hC rfl zs_7 lkX7_9 rfl dX7_isWord_37 ?_
    refine Z_aload_n hC dX7_isWord_40 rfl rfl ?_
    refine Z_get (o := 16) (c := 7) (k := 3) (v := .int ((s1 16).1 3)) hC rfl zs_7 lkX7_19 rfl dX7_isWord_41 ?_
    refine Z_iload_n hC dX7_isWord_44 rfl rfl ?_
    refine Z_iadd hC dX7_isWord_45 ?_
    obtain ⟨h5, k⟩ := k
    refine Z_bald (o := 16) (k := 0) hC (zis_of rfl rfl) h5 dX7_isWord_46 ?_
    refine Z_aload_n hC dX7_isWord_47 rfl rfl ?_
    refine Z_iload_n hC dX7_isWord_48 rfl rfl ?_
    obtain ⟨r7, s6, h8, k⟩ := k
    refine Z_callT (As := [.int x2]) (rest := [.int ((s1 16).2.2 0 (((s1 16).1 3) + x2).toNatClampNeg)]) hC hsi rfl h8 cvX7_37 rfl rfl (Nat.le_of_ble_eq_true rfl) dX7_isWord_49 ?_
    refine Z_icmp_eq (tgt := 57) hC dX7_isWord_52 (by decide) (fun c9 => ?_) (fun c9 => ?_)
    · have k := k.1 c9
      refine Z_iinc (v := x2 + 1) (V2 := [(2, .int (x2 + 1)), (0, .ref (ad 16 0)), (1, .ref (ad 30 si))]) hC dX7_isWord_57 rfl rfl (by decide) rfl ?_
      refine Z_goto (tgt := 28) hC dX7_isWord_60 (by decide) ?_
      exact Z_pick [1, 2, 0] rfl k
    · have k := k.2 c9
      refine Z_iconst (v := 0) hC dX7_isWord_55 rfl ?_
      exact Z_zret hC dX7_isWord_56 rfl k.1 k.2
set_option maxRecDepth 100000 in
set_option maxHeartbeats 4000000 in
theorem bX3_parseLine_0 {C : ZC} {X : Option Value} {Y : ZS} {s : ZS} (hC : Zok ad D ia C (d + 1) cX3_parseLine 1 RX3 none) (k : (∃ (r2 : Int32) (s1 : ZS), Ev l ad D ia d mX7_isWord [.ref (ad 16 0), .ref (ad 30 0)] s (some (.int r2)) s1 ∧ ((r2 = 0 → (∃ (r6 : Int32) (s5 : ZS), Ev l ad D ia d mX7_isWord [.ref (ad 16 0), .ref (ad 30 1)] s1 (some (.int r6)) s5 ∧ ((r6 = 0 → (∃ (r10 : Int32) (s9 : ZS), Ev l ad D ia d mX7_isWord [.ref (ad 16 0), .ref (ad 30 2)] s5 (some (.int r10)) s9 ∧ ((r10 = 0 → (∃ (r14 : Int32) (s13 : ZS), Ev l ad D ia d mX7_isWord [.ref (ad 16 0), .ref (ad 30 3)] s9 (some (.int r14)) s13 ∧ ((r14 = 0 → (∃ (r18 : Int32) (s17 : ZS), Ev l ad D ia d mX7_isWord [.ref (ad 16 0), .ref (ad 30 4)] s13 (some (.int r18)) s17 ∧ ((r18 = 0 → (∃ (r22 : Int32) (s21 : ZS), Ev l ad D ia d mX7_isWord [.ref (ad 16 0), .ref (ad 30 5)] s17 (some (.int r22)) s21 ∧ ((r22 = 0 → (∃ s25 : ZS, Ev l ad D ia d mX3_refuse [.ref (ad 17 0), .int 2, .int ((s21 16).1 3)] s21 none s25 ∧ Z l ad D ia C X Y 130 [(0, .ref (ad 17 0))] [] s25)) ∧ (¬ r22 = 0 → (∃ s27 : ZS, Ev l ad D ia d mX3_parseSteps [.ref (ad 17 0)] s21 none s27 ∧ Z l ad D ia C X Y 130 [(0, .ref (ad 17 0))] [] s27))))) ∧ (¬ r18 = 0 → (∃ s29 : ZS, Ev l ad D ia d mX3_parseReader [.ref (ad 17 0), .int 3] s17 none s29 ∧ Z l ad D ia C X Y 130 [(0, .ref (ad 17 0))] [] s29))))) ∧ (¬ r14 = 0 → (∃ s31 : ZS, Ev l ad D ia d mX3_parseReader [.ref (ad 17 0), .int 2] s13 none s31 ∧ Z l ad D ia C X Y 130 [(0, .ref (ad 17 0))] [] s31))))) ∧ (¬ r10 = 0 → (∃ s33 : ZS, Ev l ad D ia d mX3_parseReader [.ref (ad 17 0), .int 1] s9 none s33 ∧ Z l ad D ia C X Y 130 [(0, .ref (ad 17 0))] [] s33))))) ∧ (¬ r6 = 0 → (∃ s35 : ZS, Ev l ad D ia d mX3_parseReader [.ref (ad 17 0), .int 0] s5 none s35 ∧ Z l ad D ia C X Y 130 [(0, .ref (ad 17 0))] [] s35))))) ∧ (¬ r2 = 0 → (∃ s37 : ZS, Ev l ad D ia d mX3_parseBook [.ref (ad 17 0)] s1 none s37 ∧ Z l ad D ia C X Y 130 [(0, .ref (ad 17 0))] [] s37))))) : Z l ad D ia C X Y 0 [(0, .ref (ad 17 0))] [] s := by
  refine Z_aload_n hC dX3_parseLine_0 rfl rfl ?_
  refine Z_get (o := 17) (c := 3) (k := 4) (v := .ref (ad 16 0)) hC rfl zs_3 lkX3_12 rfl dX3_parseLine_1 ?_
  refine Z_ldcS (i := 0) hC (by decide) rfl dX3_parseLine_4 ?_
  obtain ⟨r2, s1, h3, k⟩ := k
  refine Z_callV (As := [.ref (ad 30 0)]) (rest := []) hC h3 cvX3_70 ⟨7, rfl, zs_7, _, rfl, rfl⟩ rfl rfl (Nat.le_of_ble_eq_true rfl) dX3_parseLine_6 ?_
  refine Z_if_eq (tgt := 19) hC dX3_parseLine_9 (by decide) (fun c4 => ?_) (fun c4 => ?_)
  · have k := k.1 c4
    refine Z_aload_n hC dX3_parseLine_19 rfl rfl ?_
    refine Z_get (o := 17) (c := 3) (k := 4) (v := .ref (ad 16 0)) hC rfl zs_3 lkX3_12 rfl dX3_parseLine_20 ?_
    refine Z_ldcS (i := 1) hC (by decide) rfl dX3_parseLine_23 ?_
    obtain ⟨r6, s5, h7, k⟩ := k
    refine Z_callV (As := [.ref (ad 30 1)]) (rest := []) hC h7 cvX3_70 ⟨7, rfl, zs_7, _, rfl, rfl⟩ rfl rfl (Nat.le_of_ble_eq_true rfl) dX3_parseLine_25 ?_
    refine Z_if_eq (tgt := 39) hC dX3_parseLine_28 (by decide) (fun c8 => ?_) (fun c8 => ?_)
    · have k := k.1 c8
      refine Z_aload_n hC dX3_parseLine_39 rfl rfl ?_
      refine Z_get (o := 17) (c := 3) (k := 4) (v := .ref (ad 16 0)) hC rfl zs_3 lkX3_12 rfl dX3_parseLine_40 ?_
      refine Z_ldcS (i := 2) hC (by decide) rfl dX3_parseLine_43 ?_
      obtain ⟨r10, s9, h11, k⟩ := k
      refine Z_callV (As := [.ref (ad 30 2)]) (rest := []) hC h11 cvX3_70 ⟨7, rfl, zs_7, _, rfl, rfl⟩ rfl rfl (Nat.le_of_ble_eq_true rfl) dX3_parseLine_45 ?_
      refine Z_if_eq (tgt := 59) hC dX3_parseLine_48 (by decide) (fun c12 => ?_) (fun c12 => ?_)
      · have k := k.1 c12
        refine Z_aload_n hC dX3_parseLine_59 rfl rfl ?_
        refine Z_get (o := 17) (c := 3) (k := 4) (v := .ref (ad 16 0)) hC rfl zs_3 lkX3_12 rfl dX3_parseLine_60 ?_
        refine Z_ldcS (i := 3) hC (by decide) rfl dX3_parseLine_63 ?_
        obtain ⟨r14, s13, h15, k⟩ := k
        refine Z_callV (As := [.ref (ad 30 3)]) (rest := []) hC h15 cvX3_70 ⟨7, rfl, zs_7, _, rfl, rfl⟩ rfl rfl (Nat.le_of_ble_eq_true rfl) dX3_parseLine_65 ?_
        refine Z_if_eq (tgt := 79) hC dX3_parseLine_68 (by decide) (fun c16 => ?_) (fun c16 => ?_)
        · have k := k.1 c16
          refine Z_aload_n hC dX3_parseLine_79 rfl rfl ?_
          refine Z_get (o := 17) (c := 3) (k := 4) (v := .ref (ad 16 0)) hC rfl zs_3 lkX3_12 rfl dX3_parseLine_80 ?_
          refine Z_ldcS (i := 4) hC (by decide) rfl dX3_parseLine_83 ?_
          obtain ⟨r18, s17, h19, k⟩ := k
          refine Z_callV (As := [.ref (ad 30 4)]) (rest := []) hC h19 cvX3_70 ⟨7, rfl, zs_7, _, rfl, rfl⟩ rfl rfl (Nat.le_of_ble_eq_true rfl) dX3_parseLine_85 ?_
          refine Z_if_eq (tgt := 99) hC dX3_parseLine_88 (by decide) (fun c20 => ?_) (fun c20 => ?_)
          · have k := k.1 c20
            refine Z_aload_n hC dX3_parseLine_99 rfl rfl ?_
            refine Z_get (o := 17) (c := 3) (k := 4) (v := .ref (ad 16 0)) hC rfl zs_3 lkX3_12 rfl dX3_parseLine_100 ?_
            refine Z_ldcS (i := 5) hC (by decide) rfl dX3_parseLine_103 ?_
            obtain ⟨r22, s21, h23, k⟩ := k
            refine Z_callV (As := [.ref (ad 30 5)]) (rest := []) hC h23 cvX3_70 ⟨7, rfl, zs_7, _, rfl, rfl⟩ rfl rfl (Nat.le_of_ble_eq_true rfl) dX3_parseLine_105 ?_
            refine Z_if_eq (tgt := 118) hC dX3_parseLine_108 (by decide) (fun c24 => ?_) (fun c24 => ?_)
            · have k := k.1 c24
              refine Z_aload_n hC dX3_parseLine_118 rfl rfl ?_
              refine Z_iconst (v := 2) hC dX3_parseLine_119 rfl ?_
              refine Z_aload_n hC dX3_parseLine_120 rfl rfl ?_
              refine Z_get (o := 17) (c := 3) (k := 4) (v := .ref (ad 16 0)) hC rfl zs_3 lkX3_12 rfl dX3_parseLine_121 ?_
              refine Z_get (o := 16) (c := 7) (k := 3) (v := .int ((s21 16).1 3)) hC rfl zs_7 lkX3_65 rfl dX3_parseLine_124 ?_
              obtain ⟨s25, h26, k⟩ := k
              refine Z_callV (As := [.int 2, .int ((s21 16).1 3)]) (rest := []) hC h26 cvX3_58 ⟨3, rfl, zs_3, _, rfl, rfl⟩ rfl rfl (Nat.le_of_ble_eq_true rfl) dX3_parseLine_127 ?_
              exact k
            · have k := k.2 c24
              refine Z_aload_n hC dX3_parseLine_111 rfl rfl ?_
              obtain ⟨s27, h28, k⟩ := k
              refine Z_callV (As := []) (rest := []) hC h28 cvX3_91 ⟨3, rfl, zs_3, _, rfl, rfl⟩ rfl rfl (Nat.le_of_ble_eq_true rfl) dX3_parseLine_112 ?_
              refine Z_goto (tgt := 130) hC dX3_parseLine_115 (by decide) ?_
              exact k
          · have k := k.2 c20
            refine Z_aload_n hC dX3_parseLine_91 rfl rfl ?_
            refine Z_iconst (v := 3) hC dX3_parseLine_92 rfl ?_
            obtain ⟨s29, h30, k⟩ := k
            refine Z_callV (As := [.int 3]) (rest := []) hC h30 cvX3_79 ⟨3, rfl, zs_3, _, rfl, rfl⟩ rfl rfl (Nat.le_of_ble_eq_true rfl) dX3_parseLine_93 ?_
            refine Z_goto (tgt := 130) hC dX3_parseLine_96 (by decide) ?_
            exact k
        · have k := k.2 c16
          refine Z_aload_n hC dX3_parseLine_71 rfl rfl ?_
          refine Z_iconst (v := 2) hC dX3_parseLine_72 rfl ?_
          obtain ⟨s31, h32, k⟩ := k
          refine Z_callV (As := [.int 2]) (rest := []) hC h32 cvX3_79 ⟨3, rfl, zs_3, _, rfl, rfl⟩ rfl rfl (Nat.le_of_ble_eq_true rfl) dX3_parseLine_73 ?_
          refine Z_goto (tgt := 130) hC dX3_parseLine_76 (by decide) ?_
          exact k
      · have k := k.2 c12
        refine Z_aload_n hC dX3_parseLine_51 rfl rfl ?_
        refine Z_iconst (v := 1) hC dX3_parseLine_52 rfl ?_
        obtain ⟨s33, h34, k⟩ := k
        refine Z_callV (As := [.int 1]) (rest := []) hC h34 cvX3_79 ⟨3, rfl, zs_3, _, rfl, rfl⟩ rfl rfl (Nat.le_of_ble_eq_true rfl) dX3_parseLine_53 ?_
        refine Z_goto (tgt := 130) hC dX3_parseLine_56 (by decide) ?_
        exact k
    · have k := k.2 c8
      refine Z_aload_n hC dX3_parseLine_31 rfl rfl ?_
      refine Z_iconst (v := 0) hC dX3_parseLine_32 rfl ?_
      obtain ⟨s35, h36, k⟩ := k
      refine Z_callV (As := [.int 0]) (rest := []) hC h36 cvX3_79 ⟨3, rfl, zs_3, _, rfl, rfl⟩ rfl rfl (Nat.le_of_ble_eq_true rfl) dX3_parseLine_33 ?_
      refine Z_goto (tgt := 130) hC dX3_parseLine_36 (by decide) ?_
      exact k
  · have k := k.2 c4
    refine Z_aload_n hC dX3_parseLine_12 rfl rfl ?_
    obtain ⟨s37, h38, k⟩ := k
    refine Z_callV (As := []) (rest := []) hC h38 cvX3_74 ⟨3, rfl, zs_3, _, rfl, rfl⟩ rfl rfl (Nat.le_of_ble_eq_true rfl) dX3_parseLine_13 ?_
    refine Z_goto (tgt := 130) hC dX3_parseLine_16 (by decide) ?_
    exact k
theorem eX3_parseLine {X : Option Value} {Y : ZS} {s : ZS} (k : ∀ C : ZC, Zok ad D ia C (d + 1) cX3_parseLine 1 RX3 none → (∃ (r2 : Int32) (s1 : ZS), Ev l ad D ia d mX7_isWord [.ref (ad 16 0), .ref (ad 30 0)] s (some (.int r2)) s1 ∧ ((r2 = 0 → (∃ (r6 : Int32) (s5 : ZS), Ev l ad D ia d mX7_isWord [.ref (ad 16 0), .ref (ad 30 1)] s1 (some (.int r6)) s5 ∧ ((r6 = 0 → (∃ (r10 : Int32) (s9 : ZS), Ev l ad D ia d mX7_isWord [.ref (ad 16 0), .ref (ad 30 2)] s5 (some (.int r10)) s9 ∧ ((r10 = 0 → (∃ (r14 : Int32) (s13 : ZS), Ev l ad D ia d mX7_isWord [.ref (ad 16 0), .ref (ad 30 3)] s9 (some (.int r14)) s13 ∧ ((r14 = 0 → (∃ (r18 : Int32) (s17 : ZS), Ev l ad D ia d mX7_isWord [.ref (ad 16 0), .ref (ad 30 4)] s13 (some (.int r18)) s17 ∧ ((r18 = 0 → (∃ (r22 : Int32) (s21 : ZS), Ev l ad D ia d mX7_isWord [.ref (ad 16 0), .ref (ad 30 5)] s17 (some (.int r22)) s21 ∧ ((r22 = 0 → (∃ s25 : ZS, Ev l ad D ia d mX3_refuse [.ref (ad 17 0), .int 2, .int ((s21 16).1 3)] s21 none s25 ∧ Z l ad D ia C X Y 130 [(0, .ref (ad 17 0))] [] s25)) ∧ (¬ r22 = 0 → (∃ s27 : ZS, Ev l ad D ia d mX3_parseSteps [.ref (ad 17 0)] s21 none s27 ∧ Z l ad D ia C X Y 130 [(0, .ref (ad 17 0))] [] s27))))) ∧ (¬ r18 = 0 → (∃ s29 : ZS, Ev l ad D ia d mX3_parseReader [.ref (ad 17 0), .int 3] s17 none s29 ∧ Z l ad D ia C X Y 130 [(0, .ref (ad 17 0))] [] s29))))) ∧ (¬ r14 = 0 → (∃ s31 : ZS, Ev l ad D ia d mX3_parseReader [.ref (ad 17 0), .int 2] s13 none s31 ∧ Z l ad D ia C X Y 130 [(0, .ref (ad 17 0))] [] s31))))) ∧ (¬ r10 = 0 → (∃ s33 : ZS, Ev l ad D ia d mX3_parseReader [.ref (ad 17 0), .int 1] s9 none s33 ∧ Z l ad D ia C X Y 130 [(0, .ref (ad 17 0))] [] s33))))) ∧ (¬ r6 = 0 → (∃ s35 : ZS, Ev l ad D ia d mX3_parseReader [.ref (ad 17 0), .int 0] s5 none s35 ∧ Z l ad D ia C X Y 130 [(0, .ref (ad 17 0))] [] s35))))) ∧ (¬ r2 = 0 → (∃ s37 : ZS, Ev l ad D ia d mX3_parseBook [.ref (ad 17 0)] s1 none s37 ∧ Z l ad D ia C X Y 130 [(0, .ref (ad 17 0))] [] s37))))) : Ev l ad D ia (d + 1) mX3_parseLine [.ref (ad 17 0)] s X Y :=
  Ev.start (by decide +kernel) (Nat.le_of_ble_eq_true rfl) (fun C hC => bX3_parseLine_0  hC (k C hC))
set_option maxRecDepth 100000 in
set_option maxHeartbeats 4000000 in
theorem bX3_parseLine_130 {C : ZC} {X : Option Value} {Y : ZS} {s : ZS} (hC : Zok ad D ia C (d + 1) cX3_parseLine 1 RX3 none) (k : (∀ s1 : ZS, s1 = stI s 17 2 (((s 17).1 2) + 1) → (∃ s2 : ZS, Ev l ad D ia d mX3_takeToken [.ref (ad 17 0)] s1 none s2 ∧ (X = none ∧ Y = s2)))) : Z l ad D ia C X Y 130 [(0, .ref (ad 17 0))] [] s := by
  refine Z_aload_n hC dX3_parseLine_130 rfl rfl ?_
  refine Z_dup hC dX3_parseLine_131 rfl ?_
  refine Z_get (o := 17) (c := 3) (k := 2) (v := .int ((s 17).1 2)) hC rfl zs_3 lkX3_32 rfl dX3_parseLine_132 ?_
  refine Z_iconst (v := 1) hC dX3_parseLine_135 rfl ?_
  refine Z_iadd hC dX3_parseLine_136 ?_
  refine Z_putI (o := 17) (k := 2) hC rfl zs_3 pkX3_32 rfl rfl (hsX3_2 _ _ _) dX3_parseLine_137 (fun s1 es1 => ?_)
  have k := k s1 es1
  refine Z_aload_n hC dX3_parseLine_140 rfl rfl ?_
  obtain ⟨s2, h3, k⟩ := k
  refine Z_callV (As := []) (rest := []) hC h3 cvX3_45 ⟨3, rfl, zs_3, _, rfl, rfl⟩ rfl rfl (Nat.le_of_ble_eq_true rfl) dX3_parseLine_141 ?_
  exact Z_vret hC dX3_parseLine_144 k.1 k.2
end ZL
