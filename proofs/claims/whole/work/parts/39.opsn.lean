def bt (x : Int32) (i : Nat) : Bool := x.toBitVec.getLsbD i
theorem b_ext {x y : Int32} (h : ∀ i, i < 32 → bt x i = bt y i) : x = y := Int32.toBitVec_inj.mp (BitVec.eq_of_getLsbD_eq (fun i hi => h i hi))
theorem b_or (x y : Int32) (i : Nat) : bt (x ||| y) i = (bt x i || bt y i) := by unfold bt; rw [Int32.toBitVec_or, BitVec.getLsbD_or]
theorem b_and (x y : Int32) (i : Nat) : bt (x &&& y) i = (bt x i && bt y i) := by unfold bt; rw [Int32.toBitVec_and, BitVec.getLsbD_and]
theorem b_xor (x y : Int32) (i : Nat) : bt (x ^^^ y) i = (bt x i ^^ bt y i) := by unfold bt; rw [Int32.toBitVec_xor, BitVec.getLsbD_xor]
theorem b_big {x : Int32} {i : Nat} (h : 32 ≤ i) : bt x i = false := BitVec.getLsbD_of_ge _ _ h
theorem b_255 (i : Nat) : bt 255 i = decide (i < 8) := by
  rcases Nat.lt_or_ge i 32 with h | h
  · exact (by decide +kernel : ∀ i, i < 32 → bt 255 i = decide (i < 8)) i h
  · rw [b_big h, decide_eq_false (by omega)]
theorem b_65535 (i : Nat) : bt 65535 i = decide (i < 16) := by
  rcases Nat.lt_or_ge i 32 with h | h
  · exact (by decide +kernel : ∀ i, i < 32 → bt 65535 i = decide (i < 16)) i h
  · rw [b_big h, decide_eq_false (by omega)]
theorem b_m1 : ∀ i, i < 32 → bt (-1) i = true := by decide +kernel
theorem b_0 (i : Nat) : bt 0 i = false := BitVec.getLsbD_zero
theorem s_l : ∀ n, n < 32 → ((nI n &&& 31).toBitVec.smod 32).toNat = n := by decide +kernel
theorem s_u : ∀ n, n < 32 → (((nI n).toUInt32 &&& Int32.toUInt32 31).toBitVec % 32).toNat = n := by decide +kernel
theorem b_shl (n : Nat) (hn : n < 32) (x : Int32) {i : Nat} (hi : i < 32) : bt (x <<< (nI n &&& 31)) i = (decide (n ≤ i) && bt x (i - n)) := by
  unfold bt
  rw [Int32.toBitVec_shiftLeft]
  show (x.toBitVec <<< ((nI n &&& 31).toBitVec.smod 32).toNat).getLsbD i = _
  rw [s_l n hn, BitVec.getLsbD_shiftLeft]
  rcases Nat.lt_or_ge i n with h | h
  · simp [h, Nat.not_le.mpr h]
  · simp [hi, h, Nat.not_lt.mpr h]
theorem b_ushr (n : Nat) (hn : n < 32) (x : Int32) (i : Nat) : bt ((x.toUInt32 >>> ((nI n).toUInt32 &&& Int32.toUInt32 31)).toInt32) i = bt x (n + i) := by
  show (x.toUInt32 >>> ((nI n).toUInt32 &&& Int32.toUInt32 31)).toBitVec.getLsbD i = x.toUInt32.toBitVec.getLsbD (n + i)
  rw [UInt32.toBitVec_shiftRight]
  show (x.toUInt32.toBitVec >>> (((nI n).toUInt32 &&& Int32.toUInt32 31).toBitVec % 32).toNat).getLsbD i = _
  rw [s_u n hn, BitVec.getLsbD_ushiftRight]
theorem b_sshr (n : Nat) (hn : n < 32) (x : Int32) {i : Nat} (hi : i < 32) : bt (x >>> (nI n &&& 31)) i = if n + i < 32 then bt x (n + i) else bt x 31 := by
  unfold bt
  rw [Int32.toBitVec_shiftRight]
  show (x.toBitVec.sshiftRight ((nI n &&& 31).toBitVec.smod 32).toNat).getLsbD i = _
  rw [s_l n hn, BitVec.getLsbD_sshiftRight, BitVec.msb_eq_getLsbD_last]
  simp [hi]
theorem b_shl8 (x : Int32) {i : Nat} (hi : i < 32) : bt (x <<< ((8 : Int32) &&& 31)) i = (decide (8 ≤ i) && bt x (i - 8)) := b_shl 8 (by omega) x hi
theorem b_shl16 (x : Int32) {i : Nat} (hi : i < 32) : bt (x <<< ((16 : Int32) &&& 31)) i = (decide (16 ≤ i) && bt x (i - 16)) := b_shl 16 (by omega) x hi
theorem b_shl24 (x : Int32) {i : Nat} (hi : i < 32) : bt (x <<< ((24 : Int32) &&& 31)) i = (decide (24 ≤ i) && bt x (i - 24)) := b_shl 24 (by omega) x hi
theorem b_sshr8 (x : Int32) {i : Nat} (hi : i < 32) : bt (x >>> ((8 : Int32) &&& 31)) i = if 8 + i < 32 then bt x (8 + i) else bt x 31 := b_sshr 8 (by omega) x hi
theorem nx_and (a b : Nat) : nI a &&& nI b = nI (a &&& b) := by
  apply Int32.toBitVec_inj.1
  show BitVec.ofNat 32 a &&& BitVec.ofNat 32 b = BitVec.ofNat 32 (a &&& b)
  apply BitVec.eq_of_getLsbD_eq
  intro i hi
  simp [hi]
theorem b_32767 (i : Nat) : bt 32767 i = decide (i < 15) := by
  rcases Nat.lt_or_ge i 32 with h | h
  · exact (by decide +kernel : ∀ i, i < 32 → bt 32767 i = decide (i < 15)) i h
  · rw [b_big h, decide_eq_false (by omega)]
theorem got_eq (x : Int32) : (ushr x 16) &&& (32767 : Int32) = (x >>> ((16 : Int32) &&& 31)) &&& (32767 : Int32) := by
  apply b_ext
  intro i hi
  rw [b_and, b_and, b_32767]
  have e1 : bt (ushr x 16) i = bt x (16 + i) := b_ushr 16 (by decide) x i
  have e2 : bt (x >>> ((16 : Int32) &&& 31)) i = if 16 + i < 32 then bt x (16 + i) else bt x 31 := b_sshr 16 (by decide) x hi
  rw [e1, e2]
  by_cases c : i < 15
  · rw [if_pos (by omega)]
  · rw [decide_eq_false c, Bool.and_false, Bool.and_false]
theorem got_nI (x : Int32) : ∃ g, g < 32768 ∧ x &&& (32767 : Int32) = nI g := by
  have e : x = nI x.toBitVec.toNat := by
    apply Int32.toBitVec_inj.mp
    show x.toBitVec = BitVec.ofNat 32 x.toBitVec.toNat
    simp
  refine ⟨x.toBitVec.toNat &&& 32767, ?_, ?_⟩
  · exact Nat.lt_of_le_of_lt Nat.and_le_right (by decide)
  · have := nx_and x.toBitVec.toNat 32767
    rw [← e] at this
    exact this
theorem rm_nI {a c : Nat} (ha : a < 2 ^ 31) (h0 : 0 < c) (hc : c < 2 ^ 31) : rm32 (nI a) (nI c) = nI (a % c) := pk_rem ha h0 hc
section ON
variable {l : Launch} {ad : ZA} {D : va_G} {ia : Nat → ClassId} {d nb nr r b o o1 : Nat} {s : ZS} {p : PS} {f m w : Int32}
/-- how high a book may be: heights below k -/
def hiV (p : PS) (r b N : Nat) : Nat → Int32
  | 0 => -4
  | h + 1 => if ((itp N (pr p 1 b (nI h)) r).2 >>> (nI b &&& 31)) &&& 1 = 0 then hiV p r b N h else nI h
theorem nI_dec (n : Nat) : nI (n + 1) + (-1) = nI n := by
  rw [← nI_pred n]
  grind
theorem hi_dec {k : Nat} (h : k ≤ 10) : (nI k - 1) + (-1) = nI k - 2 := by grind
theorem ev_highL (hr : r < nr) (hb : b < nb) {N : Nat} (hN : N ≤ 60) (hH1 : HQ (s 1) nb nr p) (hp : PI nb nr p) : ∀ (k : Nat) (u : OV), k ≤ 10 → ∃ u2, ∀ C : ZC, Zok ad D ia C (d + 5) cX8_high 5 RX8 (some .int) → Z l ad D ia C (some (.int (hiV p r b N k))) (va_up s 2 u2) 38 [(0, .ref (ad 0 0)), (1, .int (nI b)), (2, .int (nI r)), (3, .int (nI N)), (4, .int (nI k - 1))] [] (va_up s 2 u) := by
  have h8 := hp.1.1
  have h4 := hp.1.2
  intro k
  induction k with
  | zero =>
    intro u hk
    exact ⟨u, fun C hC => bX8_high_38 hC ⟨fun _ => ⟨rfl, rfl⟩, fun h => absurd (by decide) h⟩⟩
  | succ h ih =>
    intro u hk
    have hq : HQ (va_up s 2 u 1) nb nr p := by rw [va_up_ne _ _ (by decide)]; exact hH1
    obtain ⟨v1, hb1, hT⟩ := ev_beginTrial (l := l) (ad := ad) (D := D) (ia := ia) (d := d + 2) (s := va_up s 2 u) hq h8 h4
    rw [up_up] at hb1
    have hT1 := hT.w2 b (nI h)
    have hT2 : HR (va_up s 2 (setA v1 2 (upd (v1.2.2 2) b (nI h))) 2) nb nr (pr p 1 b (nI h)) 0 0 := by rw [va_up_self]; exact hT1
    obtain ⟨v2, p2, f2, w2, hb2, hH2, hp2, e4, e6⟩ := ev_passDaysOf (l := l) (ad := ad) (D := D) (ia := ia) (d := d) (o := 2) (N := N) rfl hr hN hT2 (PI_h hp ⟨h, by omega, rfl⟩)
    rw [up_up] at hb2
    have hH2b : HR (va_up s 2 v2 2) nb nr p2 f2 w2 := by rw [va_up_self]; exact hH2
    have hhd := ev_hasHad (l := l) (ad := ad) (D := D) (ia := ia) (d := d + 4) (b := b) (o := 2) rfl hH2b hp2 hr
    have hhq : hadq p2 r b = ((itp N (pr p 1 b (nI h)) r).2 >>> (nI b &&& 31)) &&& 1 := by unfold hadq; rw [e6]
    rw [hhq] at hhd
    have hin := vp_in_nI (show b < 8 by omega) (show 8 < 2 ^ 31 by decide)
    have hnl : ¬ nI h < 0 := nI_pos (by omega)
    rw [nI_pred]
    unfold hiV
    by_cases c : ((itp N (pr p 1 b (nI h)) r).2 >>> (nI b &&& 31)) &&& 1 = 0
    · rw [if_pos c] at hhd
      rw [if_pos c]
      obtain ⟨u2, hz⟩ := ih v2 (by omega)
      refine ⟨u2, fun C hC => bX8_high_38 hC ⟨fun h => absurd h hnl, fun _ => ⟨_, hb1, hin, fun s1 e1 => ⟨va_up s 2 v2, ?_, _, _, hhd, fun _ => ?_, fun h => absurd rfl h⟩⟩⟩⟩
      · rw [nI_clamp (by omega), stA_up] at e1
        subst e1
        exact hb2
      · have e : nI h + (-1) = nI h - 1 := by grind
        rw [e]
        exact hz C hC
    · rw [if_neg c] at hhd
      rw [if_neg c]
      refine ⟨v2, fun C hC => bX8_high_38 hC ⟨fun h => absurd h hnl, fun _ => ⟨_, hb1, hin, fun s1 e1 => ⟨va_up s 2 v2, ?_, _, _, hhd, fun h => absurd h (by decide), fun _ => ⟨rfl, rfl⟩⟩⟩⟩⟩
      rw [nI_clamp (by omega), stA_up] at e1
      subst e1
      exact hb2
theorem mv_highL {s0 : ZS} {nb nr r b : Nat} {p : PS} {tl : Nat} {tb : Nat → Int32} {flt : Int32} {sn : Nat} {sa : Nat → Nat → Int32} {K : KT} {H : HT} {tn : Int32} (hM : MR (s0 20) nb nr p tl tb flt sn sa K H tn) (hr : r < nr) (hb : b < nb) {N : Nat} (hN : N ≤ 60) (hp : PI nb nr p) : ∀ (k : Nat) (u : OV), k ≤ 10 → KM (s0 20) u → ∃ u2, KM (s0 20) u2 ∧ ∀ C : ZC, Zok ad D ia C (d + 6) cX9_high 5 RX9 (some .int) → Z l ad D ia C (some (.int (hiV p r b N k))) (va_up s 20 u2) 29 [(0, .ref (ad 20 0)), (1, .int (nI b)), (2, .int (nI r)), (3, .int (nI N)), (4, .int (nI k - 1))] [] (va_up s 20 u) := by
  have h8 := hp.1.1
  have h4 := hp.1.2
  intro k
  induction k with
  | zero =>
    intro u hk hu
    exact ⟨u, hu, fun C hC => bX9_high_29 hC ⟨fun _ => ⟨rfl, rfl⟩, fun h => absurd (by decide) h⟩⟩
  | succ h ih =>
    intro u hk hu
    obtain ⟨v0, e0, hM0, hk0, -⟩ := mv_begin (l := l) (ad := ad) (D := D) (ia := ia) (d := d + 5) (s := s0) (s1 := va_up s 20 u) hM (by rw [va_up_self]; exact hu) h8 h4
    rw [up_up] at e0
    have hM1 := hM0.now (hM0.2.1.bw h8 h4 (c := 1) (by decide) hb (nI h))
    have hk1 : KN v0 (setA v0 1 (upd (v0.2.2 1) (3 * b + 1) (nI h))) := KN.A _ _ (by omega) (fun _ _ => rfl)
    have hM1b : MM (va_up s 20 (setA v0 1 (upd (v0.2.2 1) (3 * b + 1) (nI h))) 20) nb nr (pr p 1 b (nI h)) (v0.1 18) (v0.1 19) (v0.1 20) := by rw [va_up_self]; exact hM1
    have hp1 : PI nb nr (pr p 1 b (nI h)) := PI_h hp ⟨h, by omega, rfl⟩
    obtain ⟨v2, e2, hM2, hk2⟩ := mv_daysGo (l := l) (ad := ad) (D := D) (ia := ia) (d := d) (N := N) (by omega) hM1b hp1
    rw [up_up] at e2
    rw [va_up_self] at hk2
    have hM2b : MM (va_up s 20 v2 20) nb nr (days nr N (pr p 1 b (nI h), 0, 0)).1 (days nr N (pr p 1 b (nI h), 0, 0)).2.1 ((days nr N (pr p 1 b (nI h), 0, 0)).1.2 1 - (pr p 1 b (nI h)).2 1) (days nr N (pr p 1 b (nI h), 0, 0)).2.2 := by rw [va_up_self]; exact hM2
    have hpd := PI_days (nb := nb) (nr := nr) N (q := (pr p 1 b (nI h), (0 : Int32), (0 : Int32))) hp1
    have hhd := mv_had (l := l) (ad := ad) (D := D) (ia := ia) (d := d + 4) (b := b) hM2b hpd hr
    have hd := (days_it nr hr N (pr p 1 b (nI h), (0 : Int32), (0 : Int32))).2
    have hhq : hadq (days nr N (pr p 1 b (nI h), 0, 0)).1 r b = ((itp N (pr p 1 b (nI h)) r).2 >>> (nI b &&& 31)) &&& 1 := by unfold hadq; rw [hd]
    rw [hhq] at hhd
    have hkm : KM (s0 20) v2 := (hk0.tr hk1.M).tr hk2.M
    have hnl : ¬ nI h < 0 := nI_pos (by omega)
    have ei : 3 * nI b + 1 = nI (3 * b + 1) := ixB b 1
    rw [nI_pred]
    unfold hiV
    by_cases c : ((itp N (pr p 1 b (nI h)) r).2 >>> (nI b &&& 31)) &&& 1 = 0
    · rw [if_pos c] at hhd
      rw [if_pos c]
      obtain ⟨u2, hk3, hz⟩ := ih v2 (by omega) hkm
      refine ⟨u2, hk3, fun C hC => bX9_high_29 hC ⟨fun h => absurd h hnl, fun _ => ⟨_, e0, ?_, fun s1 e1 => ⟨va_up s 20 v2, ?_, _, _, hhd, fun _ => ?_, fun h => absurd rfl h⟩⟩⟩⟩
      · rw [ei]
        exact vp_in_nI (by omega) (by omega)
      · rw [ei, nI_clamp (by omega), stA_up] at e1
        subst e1
        exact e2
      · have e : nI h + (-1) = nI h - 1 := by grind
        rw [e]
        exact hz C hC
    · rw [if_neg c] at hhd
      rw [if_neg c]
      refine ⟨v2, hkm, fun C hC => bX9_high_29 hC ⟨fun h => absurd h hnl, fun _ => ⟨_, e0, ?_, fun s1 e1 => ⟨va_up s 20 v2, ?_, _, _, hhd, fun h => absurd h (by decide), fun _ => ⟨rfl, rfl⟩⟩⟩⟩⟩
      · rw [ei]
        exact vp_in_nI (by omega) (by omega)
      · rw [ei, nI_clamp (by omega), stA_up] at e1
        subst e1
        exact e2
theorem op_high (hR : RR s) (x y z : Int32) : Op l ad D ia s mX8_high mX9_high [.int x, .int y, .int z] := by
  obtain ⟨nb, nr, p, tl, tb, flt, sn, sa, K, H, tn, hG, hC, hM⟩ := hR
  have hbad : RR s := ⟨nb, nr, p, tl, tb, flt, sn, sa, K, H, tn, hG, hC, hM⟩
  have hp := hG.1.1
  have h8 := hp.1.1
  have h4 := hp.1.2
  obtain ⟨f, w, hH⟩ := hC.1
  have hA := ev_hasB (l := l) (ad := ad) (D := D) (ia := ia) (d := 8) (s := s) (o := 1) rfl hH.n0 h8 x
  have hMA := fun s2 (h : (s2 20).1 3 = nI nb) => mv_isBook (l := l) (ad := ad) (D := D) (ia := ia) (d := 7) (s := s2) h h8 x
  have hB := ev_hasR (l := l) (ad := ad) (D := D) (ia := ia) (d := 8) (s := s) (o := 1) rfl hH.n4 h4 y
  have hMB := fun s2 (h : (s2 20).1 4 = nI nr) => mv_isReader (l := l) (ad := ad) (D := D) (ia := ia) (d := 7) (s := s2) h h4 y
  have o1 := ev_out0 (l := l) (ad := ad) (D := D) (ia := ia) (d := 8) (s := s) (n := 60) z (y := 60) rfl (by decide)
  have i1 := fun s2 => mv_isFar (l := l) (ad := ad) (D := D) (ia := ia) (d := 7) (s := s2) z
  by_cases cx : inN x nb = true
  · rw [cx] at hA hMA
    by_cases cy : inN y nr = true
    · rw [cy] at hB hMB
      by_cases cz : inN z 61 = true
      · rw [cz] at o1 i1
        obtain ⟨b, hb, rfl⟩ := inN_nI cx
        obtain ⟨r, hr, rfl⟩ := inN_nI cy
        obtain ⟨N, hN, rfl⟩ := inN_nI cz
        obtain ⟨u2, hz⟩ := ev_highL (l := l) (ad := ad) (D := D) (ia := ia) (d := 4) (s := s) hr hb (N := N) (by omega) hC.1 hp 10 (s 2) (by omega)
        rw [up_id] at hz
        have h20 : va_up s 2 u2 20 = s 20 := va_up_ne _ _ (by decide)
        obtain ⟨u3, hk3, hz3⟩ := mv_highL (l := l) (ad := ad) (D := D) (ia := ia) (d := 3) (s := va_up s 2 u2) hM hr hb (N := N) (by omega) hp 10 (va_up s 2 u2 20) (by omega) (KM.eq h20)
        rw [up_id] at hz3
        exact ⟨.int (hiV p r b N 10), _, _, eX8_high (fun C hZ => ⟨_, _, hA, fun h => absurd h (by decide), fun _ => ⟨_, _, hB, fun h => absurd h (by decide), fun _ => ⟨_, _, o1, fun _ => hz C hZ, fun h => absurd rfl h⟩⟩⟩), eX9_high (fun C hZ => ⟨_, _, hMA _ (by rw [h20]; exact hM.1.1), fun h => absurd h (by decide), fun _ => ⟨_, _, hMB _ (by rw [h20]; exact hM.1.2), fun h => absurd h (by decide), fun _ => ⟨_, _, i1 _, fun _ => hz3 C hZ, fun h => absurd h (by decide)⟩⟩⟩), RR_sc hG hC hM (KC.up (o := 2) (v := u2) (by decide)) hk3⟩
      · rw [bool_f cz] at o1 i1
        exact ⟨.int (-1), _, _, eX8_high (fun C hZ => ⟨_, _, hA, fun h => absurd h (by decide), fun _ => ⟨_, _, hB, fun h => absurd h (by decide), fun _ => ⟨_, _, o1, fun h => absurd h (by decide), fun _ => ⟨rfl, rfl⟩⟩⟩⟩), eX9_high (fun C hZ => ⟨_, _, hMA _ hM.1.1, fun h => absurd h (by decide), fun _ => ⟨_, _, hMB _ hM.1.2, fun h => absurd h (by decide), fun _ => ⟨_, _, i1 _, fun h => absurd rfl h, fun _ => ⟨rfl, rfl⟩⟩⟩⟩), hbad⟩
    · rw [bool_f cy] at hB hMB
      exact ⟨.int (-1), _, _, eX8_high (fun C hZ => ⟨_, _, hA, fun h => absurd h (by decide), fun _ => ⟨_, _, hB, fun _ => ⟨rfl, rfl⟩, fun h => absurd rfl h⟩⟩), eX9_high (fun C hZ => ⟨_, _, hMA _ hM.1.1, fun h => absurd h (by decide), fun _ => ⟨_, _, hMB _ hM.1.2, fun _ => ⟨rfl, rfl⟩, fun h => absurd rfl h⟩⟩), hbad⟩
  · rw [bool_f cx] at hA hMA
    exact ⟨.int (-1), _, _, eX8_high (fun C hZ => ⟨_, _, hA, fun _ => ⟨rfl, rfl⟩, fun h => absurd rfl h⟩), eX9_high (fun C hZ => ⟨_, _, hMA _ hM.1.1, fun _ => ⟨rfl, rfl⟩, fun h => absurd rfl h⟩), hbad⟩
end ON
