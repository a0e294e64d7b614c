/-! THE LAW: its loop, its entry (laid by wip/glaw.py) -/
section LAWW
variable {l : Launch} {p : Program} {e : Env} {s : State} {m : MethodId} {below : List Frame} {meth : Method} {c : Code} {b L : Nat} {xs : Nat → Int32} {D : va_G} {ia : Nat → ClassId} {a30 a31 : Nat → Nat}
theorem sub5 {L : Nat} (h : L ≤ 2560) : (nI L - 5).toInt = (L : Int) - 5 := by
  by_cases c : 5 ≤ L
  · have e : nI L - 5 = nI (L - 5) := pk_sub (a := L) (b := 5) c
    rw [e, nI_toInt (by omega)]
    omega
  · rcases (show L = 0 ∨ L = 1 ∨ L = 2 ∨ L = 3 ∨ L = 4 by omega) with rfl | rfl | rfl | rfl | rfl <;> decide
/-- the law's end -/
theorem law_end (hA : lwA p s m meth c b L xs D ia a30 a31) {i : Nat} {s1 : ZS} : LY l p e s m below meth c b D ia a30 a31 i 1382 [] s1 := by
  obtain ⟨⟨hx, hb, hr, hml, hown, hts, hX, hbl, hlocks, hgv⟩, hL, hKz⟩ := hA
  intro H locs ls hw hS hl
  refine lv_iconst (v := 1) hx hb dL_law_1382 (by decide) ?_
  refine va_forget (fun q hq => hS.2.2 q hq) ?_
  refine W.widen (k := 600000) (n := 7302250) (Nat.le_of_ble_eq_true rfl) (Nat.le_of_ble_eq_true rfl) ?_
  exact lw_ret hx hb hr hlocks dL_law_1383
theorem law_loop (hA : lwA p s m meth c b L xs D ia a30 a31) : ∀ (k i : Nat) (s1 : ZS), L ≤ i + 5 * k → i ≤ 2600 → RR s1 → LY l p e s m below meth c b D ia a30 a31 i 18 [] s1 := by
  obtain ⟨⟨hx, hb, hr, hml, hown, hts, hX, hbl, hlocks, hgv⟩, hL, hKz⟩ := id hA
  have head : ∀ {i : Nat} {s1 : ZS}, i ≤ 2600 → (i + 5 ≤ L → LY l p e s m below meth c b D ia a30 a31 i 26 [] s1) → LY l p e s m below meth c b D ia a30 a31 i 18 [] s1 := by
    intro i s1 hi kz H locs ls hw hS hl
    refine lv_iload_n hx hb dL_law_18 rfl (lv_at hl 3 rfl) ?_
    refine lv_aload_n hx hb dL_law_19 rfl (lv_at hl 0 rfl) ?_
    refine va_slen hx hb hX hbl (A := yA s.heap.size) (Nat.not_le.mpr hbl) hS dL_law_20 ?_
    refine lv_iconst (v := 5) hx hb dL_law_21 (by decide) ?_
    refine lv_isub hx hb dL_law_22 ?_
    refine lv_icmp_gt (tgt := 1382) hx hb dL_law_23 (by decide) (fun _ => law_end hA H locs ls hw hS hl) (fun q => ?_)
    refine kz ?_ H locs ls hw hS hl
    have q : ¬ nI L - 5 < nI i := q
    rw [Int32.lt_iff_toInt_lt, sub5 hL, nI_toInt (by omega)] at q
    omega
  intro k
  induction k with
  | zero =>
    intro i s1 hk hi hR
    exact head hi (fun h => absurd h (by omega))
  | succ k ih =>
    intro i s1 hk hi hR
    refine head hi (fun h5 => ?_)
    have kk : ∀ s2, RR s2 → LY l p e s m below meth c b D ia a30 a31 i 1376 [] s2 := by
      intro s2 hR2 H locs ls hw hS hl
      refine lv_iinc (v := nI (i + 5)) (lv' := [(3, .int (nI (i + 5))), (0, .ref b), (1, .ref s.heap.size), (2, .ref (s.heap.size + 94))]) hx hb dL_law_1376 hl (k := 3) rfl (nI_add i 5) (by decide) rfl (fun ls hl => ?_)
      refine lv_goto (tgt := 18) hx hb dL_law_1379 (by decide) ?_
      exact ih (i + 5) s2 (by omega) (by omega) hR2 H locs ls hw hS (lv_sub hl [1, 2, 3, 0] rfl)
    intro H locs ls hw hS hl
    refine lv_aload_n hx hb dL_law_26 rfl (lv_at hl 0 rfl) ?_
    refine lv_iload_n hx hb dL_law_27 rfl (lv_at hl 3 rfl) ?_
    refine va_sld hx hb hX hbl (A := yA s.heap.size) (Nat.not_le.mpr hbl) hS (vp_in_nI (by omega) (by omega)) dL_law_28 ?_
    refine lv_bipush (v := 63) hx hb dL_law_29 (by decide) ?_
    refine lv_iand hx hb dL_law_31 ?_
    rw [pk_and (xs (nI i).toNatClampNeg) (m := 63) 6 (by decide)]
    have ht : (xs (nI i).toNatClampNeg).toBitVec.toNat % 2 ^ 6 < 64 := Nat.mod_lt _ (by decide)
    generalize (xs (nI i).toNatClampNeg).toBitVec.toNat % 2 ^ 6 = t at ht ⊢
    have hti : (nI t).toInt = (t : Int) := nI_toInt (by omega)
    by_cases c38 : t < 38
    · have tin : ∀ {off : Int} {tgt : Nat}, #[(168 : Int), (191 : Int), (214 : Int), (227 : Int), (240 : Int), (263 : Int), (296 : Int), (329 : Int), (372 : Int), (415 : Int), (438 : Int), (461 : Int), (494 : Int), (517 : Int), (550 : Int), (593 : Int), (616 : Int), (639 : Int), (662 : Int), (695 : Int), (728 : Int), (761 : Int), (794 : Int), (837 : Int), (891 : Int), (935 : Int), (978 : Int), (1001 : Int), (1024 : Int), (1047 : Int), (1080 : Int), (1123 : Int), (1146 : Int), (1169 : Int), (1212 : Int), (1255 : Int), (1308 : Int), (1321 : Int)][t]? = some off → ((32 : Nat) : Int) + off = (tgt : Int) → LY l p e s m below meth c b D ia a30 a31 i tgt [] s1 → W p l e room_1 s m #[Value.ref b] below meth c H locs 108 3314 (lw_Z below #[Value.ref b] s) (F0 m 32 ls [.int (nI t)]) := fun ho ht2 kz => lv_tableIn hx hb dL_law_32 (by rw [hti]; omega) (by rw [hti]; omega) (by rw [hti]; simpa using ho) ht2 (kz H locs ls hw hS hl)
      rcases (show t = 0 ∨ t = 1 ∨ t = 2 ∨ t = 3 ∨ t = 4 ∨ t = 5 ∨ t = 6 ∨ t = 7 ∨ t = 8 ∨ t = 9 ∨ t = 10 ∨ t = 11 ∨ t = 12 ∨ t = 13 ∨ t = 14 ∨ t = 15 ∨ t = 16 ∨ t = 17 ∨ t = 18 ∨ t = 19 ∨ t = 20 ∨ t = 21 ∨ t = 22 ∨ t = 23 ∨ t = 24 ∨ t = 25 ∨ t = 26 ∨ t = 27 ∨ t = 28 ∨ t = 29 ∨ t = 30 ∨ t = 31 ∨ t = 32 ∨ t = 33 ∨ t = 34 ∨ t = 35 ∨ t = 36 ∨ t = 37 by omega) with rfl | rfl | rfl | rfl | rfl | rfl | rfl | rfl | rfl | rfl | rfl | rfl | rfl | rfl | rfl | rfl | rfl | rfl | rfl | rfl | rfl | rfl | rfl | rfl | rfl | rfl | rfl | rfl | rfl | rfl | rfl | rfl | rfl | rfl | rfl | rfl | rfl | rfl
      · exact tin (off := 168) (tgt := 200) (by decide) (by decide) (lc_0 hA h5 hR kk)
      · exact tin (off := 191) (tgt := 223) (by decide) (by decide) (lc_1 hA h5 hR kk)
      · exact tin (off := 214) (tgt := 246) (by decide) (by decide) (lc_2 hA h5 hR kk)
      · exact tin (off := 227) (tgt := 259) (by decide) (by decide) (lc_3 hA h5 hR kk)
      · exact tin (off := 240) (tgt := 272) (by decide) (by decide) (lc_4 hA h5 hR kk)
      · exact tin (off := 263) (tgt := 295) (by decide) (by decide) (lc_5 hA h5 hR kk)
      · exact tin (off := 296) (tgt := 328) (by decide) (by decide) (lc_6 hA h5 hR kk)
      · exact tin (off := 329) (tgt := 361) (by decide) (by decide) (lc_7 hA h5 hR kk)
      · exact tin (off := 372) (tgt := 404) (by decide) (by decide) (lc_8 hA h5 hR kk)
      · exact tin (off := 415) (tgt := 447) (by decide) (by decide) (lc_9 hA h5 hR kk)
      · exact tin (off := 438) (tgt := 470) (by decide) (by decide) (lc_10 hA h5 hR kk)
      · exact tin (off := 461) (tgt := 493) (by decide) (by decide) (lc_11 hA h5 hR kk)
      · exact tin (off := 494) (tgt := 526) (by decide) (by decide) (lc_12 hA h5 hR kk)
      · exact tin (off := 517) (tgt := 549) (by decide) (by decide) (lc_13 hA h5 hR kk)
      · exact tin (off := 550) (tgt := 582) (by decide) (by decide) (lc_14 hA h5 hR kk)
      · exact tin (off := 593) (tgt := 625) (by decide) (by decide) (lc_15 hA h5 hR kk)
      · exact tin (off := 616) (tgt := 648) (by decide) (by decide) (lc_16 hA h5 hR kk)
      · exact tin (off := 639) (tgt := 671) (by decide) (by decide) (lc_17 hA h5 hR kk)
      · exact tin (off := 662) (tgt := 694) (by decide) (by decide) (lc_18 hA h5 hR kk)
      · exact tin (off := 695) (tgt := 727) (by decide) (by decide) (lc_19 hA h5 hR kk)
      · exact tin (off := 728) (tgt := 760) (by decide) (by decide) (lc_20 hA h5 hR kk)
      · exact tin (off := 761) (tgt := 793) (by decide) (by decide) (lc_21 hA h5 hR kk)
      · exact tin (off := 794) (tgt := 826) (by decide) (by decide) (lc_22 hA h5 hR kk)
      · exact tin (off := 837) (tgt := 869) (by decide) (by decide) (lc_23 hA h5 hR kk)
      · exact tin (off := 891) (tgt := 923) (by decide) (by decide) (lc_24 hA h5 hR kk)
      · exact tin (off := 935) (tgt := 967) (by decide) (by decide) (lc_25 hA h5 hR kk)
      · exact tin (off := 978) (tgt := 1010) (by decide) (by decide) (lc_26 hA h5 hR kk)
      · exact tin (off := 1001) (tgt := 1033) (by decide) (by decide) (lc_27 hA h5 hR kk)
      · exact tin (off := 1024) (tgt := 1056) (by decide) (by decide) (lc_28 hA h5 hR kk)
      · exact tin (off := 1047) (tgt := 1079) (by decide) (by decide) (lc_29 hA h5 hR kk)
      · exact tin (off := 1080) (tgt := 1112) (by decide) (by decide) (lc_30 hA h5 hR kk)
      · exact tin (off := 1123) (tgt := 1155) (by decide) (by decide) (lc_31 hA h5 hR kk)
      · exact tin (off := 1146) (tgt := 1178) (by decide) (by decide) (lc_32 hA h5 hR kk)
      · exact tin (off := 1169) (tgt := 1201) (by decide) (by decide) (lc_33 hA h5 hR kk)
      · exact tin (off := 1212) (tgt := 1244) (by decide) (by decide) (lc_34 hA h5 hR kk)
      · exact tin (off := 1255) (tgt := 1287) (by decide) (by decide) (lc_35 hA h5 hR kk)
      · exact tin (off := 1308) (tgt := 1340) (by decide) (by decide) (lc_36 hA h5 hR kk)
      · exact tin (off := 1321) (tgt := 1353) (by decide) (by decide) (lc_37 hA h5 hR kk)
    · exact lv_tableOut (tgt := 1376) hx hb dL_law_32 (by rw [hti]; omega) (by decide) (kk s1 hR H locs ls hw hS hl)
end LAWW

