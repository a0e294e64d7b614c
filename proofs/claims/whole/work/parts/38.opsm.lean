theorem PI_h {nb nr : Nat} {p : PS} {b : Nat} {x : Int32} (h : PI nb nr p) (hx : ∃ k, k ≤ 9 ∧ x = nI k) : PI nb nr (pr p 1 b x) := by
  obtain ⟨h1, h2, h3, h4⟩ := h
  refine ⟨h1, fun q hq => by rw [pr_sta (by decide)]; exact h2 q hq, fun q hq => by rw [pr_sta (by decide)]; exact h3 q hq, fun q hq => ?_⟩
  by_cases e : q = b
  · subst e
    rw [pr_self]
    exact hx
  · rw [pr_row e]
    exact h4 q hq
theorem PI_5 {nb nr : Nat} {p : PS} {b : Nat} {x : Int32} (h : PI nb nr p) : PI nb nr (pr p 5 b x) := by
  obtain ⟨h1, h2, h3, h4⟩ := h
  exact ⟨h1, fun q hq => by rw [pr_sta (by decide)]; exact h2 q hq, fun q hq => by rw [pr_sta (by decide)]; exact h3 q hq, fun q hq => by rw [pr_sta (by decide)]; exact h4 q hq⟩
section OM
variable {l : Launch} {ad : ZA} {D : va_G} {ia : Nat → ClassId} {d nb nr r b o o1 : Nat} {s : ZS} {p : PS} {f m w : Int32}
/-- the reference at its beginning, over a store that the class's working objects changed -/
theorem mv_begin {s s1 : ZS} {nb nr : Nat} {p : PS} {tl : Nat} {tb : Nat → Int32} {flt : Int32} {sn : Nat} {sa : Nat → Nat → Int32} {K : KT} {H : HT} {tn : Int32} (hM : MR (s 20) nb nr p tl tb flt sn sa K H tn) (h1 : KM (s 20) (s1 20)) (h8 : nb ≤ 8) (h4 : nr ≤ 4) : ∃ v0, Ev l ad D ia d mX9_starts [.ref (ad 20 0)] s1 none (va_up s1 20 v0) ∧ MM v0 nb nr p (v0.1 18) (v0.1 19) (v0.1 20) ∧ KM (s 20) v0 ∧ v0.2.2 0 = (s 20).2.2 0 := by
  have hM1 := MR_km h1 hM
  obtain ⟨v0, e0, hM0, hk0⟩ := mv_starts (l := l) (ad := ad) (D := D) (ia := ia) (d := d) (s := s1) (nb := nb) (nr := nr) (p := p) hM1.1 hM1.2.2.2.1 h8 h4
  exact ⟨v0, e0, hM0, h1.tr hk0.M, by rw [hk0.2.1 0 (by decide), h1.2 0 (by omega)]⟩
theorem KM.eq {s s1 : ZS} (h : s1 20 = s 20) : KM (s 20) (s1 20) := by rw [h]; exact KM.rf _
theorem op_ahead (hR : RR s) (x y z : Int32) : Op l ad D ia s mX8_ahead mX9_ahead [.int x, .int y, .int z] := by
  obtain ⟨nb, nr, p, tl, tb, flt, sn, sa, K, H, tn, hG, hC, hM⟩ := hR
  have hbad : RR s := ⟨nb, nr, p, tl, tb, flt, sn, sa, K, H, tn, hG, hC, hM⟩
  have hp := hG.1.1
  have h8 := hp.1.1
  have h4 := hp.1.2
  obtain ⟨f, w, hH⟩ := hC.1
  have hB := ev_hasR (l := l) (ad := ad) (D := D) (ia := ia) (d := 8) (s := s) (o := 1) rfl hH.n4 h4 x
  have hMB := fun s2 (h : (s2 20).1 4 = nI nr) => mv_isReader (l := l) (ad := ad) (D := D) (ia := ia) (d := 7) (s := s2) h h4 x
  have o1 := ev_out0 (l := l) (ad := ad) (D := D) (ia := ia) (d := 8) (s := s) (n := 60) y (y := 60) rfl (by decide)
  have i1 := fun s2 => mv_isFar (l := l) (ad := ad) (D := D) (ia := ia) (d := 7) (s := s2) y
  have o2 := ev_out0 (l := l) (ad := ad) (D := D) (ia := ia) (d := 8) (s := s) (n := 1) z (y := 1) rfl (by decide)
  have i2 := fun s2 => mv_isPart (l := l) (ad := ad) (D := D) (ia := ia) (d := 7) (s := s2) z
  by_cases cx : inN x nr = true
  · rw [cx] at hB hMB
    by_cases cy : inN y 61 = true
    · rw [cy] at o1 i1
      by_cases cz : inN z 2 = true
      · rw [cz] at o2 i2
        obtain ⟨r, hr, rfl⟩ := inN_nI cx
        obtain ⟨N, hN, rfl⟩ := inN_nI cy
        have hin := vp_in_nI (show r < 4 by omega) (show 4 < 2 ^ 31 by decide)
        have hcl := nI_clamp (show r < 2 ^ 31 by omega)
        obtain ⟨v1, hb1, hT⟩ := ev_beginTrial (l := l) (ad := ad) (D := D) (ia := ia) (d := 6) (s := s) hC.1 h8 h4
        have hT1 : HR (va_up s 2 v1 2) nb nr p 0 0 := by rw [va_up_self]; exact hT
        obtain ⟨v2, p2, f2, w2, hb2, hT2, hp2, e4, e6⟩ := ev_passDaysOf (l := l) (ad := ad) (D := D) (ia := ia) (d := 4) (o := 2) (N := N) rfl hr (by omega) hT1 hp
        rw [up_up] at hb2
        have h20 : va_up s 2 v2 20 = s 20 := va_up_ne _ _ (by decide)
        obtain ⟨v0, e0, hM0, hk0, -⟩ := mv_begin (l := l) (ad := ad) (D := D) (ia := ia) (d := 8) (s1 := va_up s 2 v2) hM (KM.eq h20) h8 h4
        have hM0b : MM (va_up (va_up s 2 v2) 20 v0 20) nb nr p (v0.1 18) (v0.1 19) (v0.1 20) := by rw [va_up_self]; exact hM0
        obtain ⟨v3, e3, hM3, hk3⟩ := mv_daysGo (l := l) (ad := ad) (D := D) (ia := ia) (d := 3) (N := N) (by omega) hM0b hp
        rw [up_up] at e3
        rw [va_up_self] at hk3
        have hM3b : MM (va_up (va_up s 2 v2) 20 v3 20) nb nr (days nr N (p, 0, 0)).1 (days nr N (p, 0, 0)).2.1 ((days nr N (p, 0, 0)).1.2 1 - p.2 1) (days nr N (p, 0, 0)).2.2 := by rw [va_up_self]; exact hM3
        have hpd := PI_days (nb := nb) (nr := nr) N (q := (p, (0 : Int32), (0 : Int32))) hp
        have hd := days_it nr hr N (p, (0 : Int32), (0 : Int32))
        refine ⟨.int (if z = 0 then (itp N p r).1 else (itp N p r).2), _, _, eX8_ahead ⟨_, _, hB, fun h => absurd h (by decide), fun _ => ⟨_, _, o1, fun h => absurd rfl h, fun _ => ⟨_, _, o2, fun _ => ⟨_, hb1, _, hb2, fun h => ⟨hin, ?_, rfl⟩, fun h => ⟨hin, ?_, rfl⟩⟩, fun h => absurd rfl h⟩⟩⟩, eX9_ahead ⟨_, _, hMB _ (by rw [h20]; exact hM.1.2), fun h => absurd h (by decide), fun _ => ⟨_, _, i1 _, fun h => absurd h (by decide), fun _ => ⟨_, _, i2 _, fun _ => ⟨_, e0, _, e3, fun h => ⟨_, _, mv_ofR (c := 3) hM3b hpd (by decide) hr, ?_, rfl⟩, fun h => ⟨_, _, mv_ofR (c := 1) hM3b hpd (by decide) hr, ?_, rfl⟩⟩, fun h => absurd h (by decide)⟩⟩⟩, RR_sc hG hC hM (KC.up (o := 2) (v := v2) (by decide)) (hk0.tr hk3.M)⟩
        · rw [hcl, va_up_self, hT2.g8 hr, if_neg h, e6]
        · rw [hcl, va_up_self, hT2.g6 hr, if_pos h, e4]
        · rw [if_neg h]
          exact congrArg (fun q => some (Value.int q)) hd.2.symm
        · rw [if_pos h]
          exact congrArg (fun q => some (Value.int q)) hd.1.symm
      · rw [bool_f cz] at o2 i2
        exact ⟨.int (-1), _, _, eX8_ahead ⟨_, _, hB, fun h => absurd h (by decide), fun _ => ⟨_, _, o1, fun h => absurd rfl h, fun _ => ⟨_, _, o2, fun h => absurd h (by decide), fun _ => ⟨rfl, rfl⟩⟩⟩⟩, eX9_ahead ⟨_, _, hMB _ hM.1.2, fun h => absurd h (by decide), fun _ => ⟨_, _, i1 _, fun h => absurd h (by decide), fun _ => ⟨_, _, i2 _, fun h => absurd rfl h, fun _ => ⟨rfl, rfl⟩⟩⟩⟩, hbad⟩
    · rw [bool_f cy] at o1 i1
      exact ⟨.int (-1), _, _, eX8_ahead ⟨_, _, hB, fun h => absurd h (by decide), fun _ => ⟨_, _, o1, fun _ => ⟨rfl, rfl⟩, fun h => absurd h (by decide)⟩⟩, eX9_ahead ⟨_, _, hMB _ hM.1.2, fun h => absurd h (by decide), fun _ => ⟨_, _, i1 _, fun _ => ⟨rfl, rfl⟩, fun h => absurd rfl h⟩⟩, hbad⟩
  · rw [bool_f cx] at hB hMB
    exact ⟨.int (-1), _, _, eX8_ahead ⟨_, _, hB, fun _ => ⟨rfl, rfl⟩, fun h => absurd rfl h⟩, eX9_ahead ⟨_, _, hMB _ hM.1.2, fun _ => ⟨rfl, rfl⟩, fun h => absurd rfl h⟩, hbad⟩
theorem op_done (hR : RR s) (x : Int32) : Op l ad D ia s mX8_done mX9_done [.int x] := by
  obtain ⟨nb, nr, p, tl, tb, flt, sn, sa, K, H, tn, hG, hC, hM⟩ := hR
  have hp := hG.1.1
  have h8 := hp.1.1
  have h4 := hp.1.2
  obtain ⟨f, w, hH⟩ := hC.1
  have hB := ev_hasR (l := l) (ad := ad) (D := D) (ia := ia) (d := 8) (s := s) (o := 1) rfl hH.n4 h4 x
  have hMB := fun s2 (h : (s2 20).1 4 = nI nr) => mv_isReader (l := l) (ad := ad) (D := D) (ia := ia) (d := 7) (s := s2) h h4 x
  by_cases cx : inN x nr = true
  · rw [cx] at hB hMB
    obtain ⟨r, hr, rfl⟩ := inN_nI cx
    obtain ⟨v1, hb1, hT⟩ := ev_beginTrial (l := l) (ad := ad) (D := D) (ia := ia) (d := 6) (s := s) hC.1 h8 h4
    have hT1 : HR (va_up s 2 v1 2) nb nr p 0 0 := by rw [va_up_self]; exact hT
    obtain ⟨v2, hb2⟩ := ev_daysTillDone (l := l) (ad := ad) (D := D) (ia := ia) (d := 4) (o := 2) (N := 60) rfl hr (by omega) hT1 hp
    rw [up_up] at hb2
    have h20 : va_up s 2 v2 20 = s 20 := va_up_ne _ _ (by decide)
    obtain ⟨v0, e0, hM0, hk0, -⟩ := mv_begin (l := l) (ad := ad) (D := D) (ia := ia) (d := 8) (s1 := va_up s 2 v2) hM (KM.eq h20) h8 h4
    have hM0b : MM (va_up (va_up s 2 v2) 20 v0 20) nb nr p (v0.1 18) (v0.1 19) (v0.1 20) := by rw [va_up_self]; exact hM0
    obtain ⟨v3, e3, hk3⟩ := mv_daysTo (l := l) (ad := ad) (D := D) (ia := ia) (d := 3) hr hM0b hp
    rw [up_up] at e3
    rw [va_up_self] at hk3
    exact ⟨.int (tDp p r 60 0), _, _, eX8_done ⟨_, _, hB, fun _ => ⟨_, hb1, _, _, hb2, rfl, rfl⟩, fun h => absurd h (by decide)⟩, eX9_done ⟨_, _, hMB _ (by rw [h20]; exact hM.1.2), fun _ => ⟨_, e0, _, _, e3, rfl, rfl⟩, fun h => absurd h (by decide)⟩, RR_sc hG hC hM (KC.up (o := 2) (v := v2) (by decide)) (hk0.tr hk3.M)⟩
  · rw [bool_f cx] at hB hMB
    exact ⟨.int (-1), _, _, eX8_done ⟨_, _, hB, fun h => absurd rfl h, fun _ => ⟨rfl, rfl⟩⟩, eX9_done ⟨_, _, hMB _ hM.1.2, fun h => absurd rfl h, fun _ => ⟨rfl, rfl⟩⟩, nb, nr, p, tl, tb, flt, sn, sa, K, H, tn, hG, hC, hM⟩
/-- the least that he must bear, from v on, k tries -/
def neV (p : PS) (r N : Nat) : Nat → Nat → Int32
  | 0, _ => -4
  | k + 1, v => if tDp (pr p 5 r (nI v)) r N 0 = -4 then neV p r N k (v + 1) else nI v
theorem ev_needL (hr : r < nr) {N : Nat} (hN : N ≤ 60) (hH1 : HQ (s 1) nb nr p) (hp : PI nb nr p) : ∀ (k v : Nat) (u : OV), v + k = 100 → ∃ u2, ∀ C : ZC, Zok ad D ia C (d + 5) cX8_need 4 RX8 (some .int) → Z l ad D ia C (some (.int (neV p r N k v))) (va_up s 2 u2) 25 [(0, .ref (ad 0 0)), (1, .int (nI r)), (2, .int (nI N)), (3, .int (nI v))] [] (va_up s 2 u) := by
  have h8 := hp.1.1
  have h4 := hp.1.2
  intro k
  induction k with
  | zero =>
    intro v u hv
    exact ⟨u, fun C hC => bX8_need_25 hC ⟨fun _ => ⟨rfl, rfl⟩, fun h => absurd (nI_lt (a := 99) (b := v) (by omega) (by omega)) h⟩⟩
  | succ k ih =>
    intro v u hv
    have hq : HQ (va_up s 2 u 1) nb nr p := by rw [va_up_ne _ _ (by decide)]; exact hH1
    obtain ⟨v1, hb1, hT⟩ := ev_beginTrial (l := l) (ad := ad) (D := D) (ia := ia) (d := d + 2) (s := va_up s 2 u) hq h8 h4
    rw [up_up] at hb1
    have hT1 := hT.w7 r (nI v)
    have hT2 : HR (va_up s 2 (setA v1 7 (upd (v1.2.2 7) r (nI v))) 2) nb nr (pr p 5 r (nI v)) 0 0 := by rw [va_up_self]; exact hT1
    obtain ⟨v2, hb2⟩ := ev_daysTillDone (l := l) (ad := ad) (D := D) (ia := ia) (d := d) (o := 2) (N := N) rfl hr hN hT2 (PI_5 hp)
    rw [up_up] at hb2
    have hin := vp_in_nI (show r < 4 by omega) (show 4 < 2 ^ 31 by decide)
    have hnl : ¬ (99 : Int32) < nI v := nI_nlt (a := 99) (b := v) (by omega) (by omega)
    unfold neV
    by_cases c : tDp (pr p 5 r (nI v)) r N 0 = -4
    · rw [if_pos c]
      obtain ⟨u2, hz⟩ := ih (v + 1) v2 (by omega)
      refine ⟨u2, fun C hC => bX8_need_25 hC ⟨fun h => absurd h hnl, fun _ => ⟨_, hb1, hin, fun s1 e1 => ⟨_, v2 |> fun q => va_up s 2 q, ?_, fun _ => ?_, fun h => absurd c h⟩⟩⟩⟩
      · rw [nI_clamp (by omega), stA_up] at e1
        subst e1
        exact hb2
      · rw [nI_1]
        exact hz C hC
    · rw [if_neg c]
      refine ⟨v2, fun C hC => bX8_need_25 hC ⟨fun h => absurd h hnl, fun _ => ⟨_, hb1, hin, fun s1 e1 => ⟨_, va_up s 2 v2, ?_, fun h => absurd h c, fun _ => ⟨rfl, rfl⟩⟩⟩⟩⟩
      rw [nI_clamp (by omega), stA_up] at e1
      subst e1
      exact hb2
theorem mv_needL {s0 : ZS} {nb nr r : Nat} {p : PS} {tl : Nat} {tb : Nat → Int32} {flt : Int32} {sn : Nat} {sa : Nat → Nat → Int32} {K : KT} {H : HT} {tn : Int32} (hM : MR (s0 20) nb nr p tl tb flt sn sa K H tn) (hr : r < nr) {N : Nat} (hN : N ≤ 60) (hp : PI nb nr p) : ∀ (k v : Nat) (u : OV), v + k = 100 → KM (s0 20) u → ∃ u2, KM (s0 20) u2 ∧ ∀ C : ZC, Zok ad D ia C (d + 6) cX9_need 4 RX9 (some .int) → Z l ad D ia C (some (.int (neV p r N k v))) (va_up s 20 u2) 19 [(0, .ref (ad 20 0)), (1, .int (nI r)), (2, .int (nI N)), (3, .int (nI v))] [] (va_up s 20 u) := by
  have h8 := hp.1.1
  have h4 := hp.1.2
  intro k
  induction k with
  | zero =>
    intro v u hv hu
    exact ⟨u, hu, fun C hC => bX9_need_19 hC ⟨fun _ => ⟨rfl, rfl⟩, fun h => absurd (nI_lt (a := 99) (b := v) (by omega) (by omega)) h⟩⟩
  | succ k ih =>
    intro v u hv hu
    obtain ⟨v0, e0, hM0, hk0, -⟩ := mv_begin (l := l) (ad := ad) (D := D) (ia := ia) (d := d + 5) (s := s0) (s1 := va_up s 20 u) hM (by rw [va_up_self]; exact hu) h8 h4
    rw [up_up] at e0
    have hM0b : MM (va_up s 20 v0 20) nb nr p (v0.1 18) (v0.1 19) (v0.1 20) := by rw [va_up_self]; exact hM0
    obtain ⟨v1, e1, hM1, hk1, -⟩ := mv_beR (l := l) (ad := ad) (D := D) (ia := ia) (d := d + 5) (c := 2) hM0b hp (by decide) hr (nI v)
    rw [up_up] at e1
    rw [va_up_self] at hk1
    have hM1b : MM (va_up s 20 v1 20) nb nr (pr p 5 r (nI v)) (v0.1 18) (v0.1 19) (v0.1 20) := by rw [va_up_self]; exact hM1
    have hp1 : PI nb nr (pr p 5 r (nI v)) := PI_5 hp
    obtain ⟨v2, e2, hM2, hk2⟩ := mv_daysGo (l := l) (ad := ad) (D := D) (ia := ia) (d := d) (N := N) (by omega) hM1b hp1
    rw [up_up] at e2
    rw [va_up_self] at hk2
    have hM2b : MM (va_up s 20 v2 20) nb nr (days nr N (pr p 5 r (nI v), 0, 0)).1 (days nr N (pr p 5 r (nI v), 0, 0)).2.1 ((days nr N (pr p 5 r (nI v), 0, 0)).1.2 1 - (pr p 5 r (nI v)).2 1) (days nr N (pr p 5 r (nI v), 0, 0)).2.2 := by rw [va_up_self]; exact hM2
    have hpd := PI_days (nb := nb) (nr := nr) N (q := (pr p 5 r (nI v), (0 : Int32), (0 : Int32))) hp1
    have hw := mv_ofR (l := l) (ad := ad) (D := D) (ia := ia) (d := d + 5) (c := 1) hM2b hpd (by decide) hr
    have hd := (days_it nr hr N (pr p 5 r (nI v), (0 : Int32), (0 : Int32))).1
    have hti := tD_it (h := (pr p 5 r (nI v)).1 1) (ld := (pr p 5 r (nI v)).1 2) (k := (pr p 5 r (nI v)).1 3 r) (br := (pr p 5 r (nI v)).1 5 r) N 0 ((pr p 5 r (nI v)).1 4 r, (pr p 5 r (nI v)).1 6 r) (by omega)
    have hkm : KM (s0 20) v2 := (hk0.tr hk1.M).tr hk2.M
    have hnl : ¬ (99 : Int32) < nI v := nI_nlt (a := 99) (b := v) (by omega) (by omega)
    unfold neV
    by_cases c : tDp (pr p 5 r (nI v)) r N 0 = -4
    · rw [if_pos c]
      obtain ⟨u2, hk3, hz⟩ := ih (v + 1) v2 (by omega) hkm
      refine ⟨u2, hk3, fun C hC => bX9_need_19 hC ⟨fun h => absurd h hnl, fun _ => ⟨_, e0, _, e1, _, e2, _, _, hw, fun _ => ?_, fun h => ?_⟩⟩⟩
      · rw [nI_1]
        exact hz C hC
      · exact absurd c (hti.mpr (hd.symm.trans h))
    · rw [if_neg c]
      refine ⟨v2, hkm, fun C hC => bX9_need_19 hC ⟨fun h => absurd h hnl, fun _ => ⟨_, e0, _, e1, _, e2, _, _, hw, fun h => ?_, fun _ => ⟨rfl, rfl⟩⟩⟩⟩
      exact absurd (hd.trans (hti.mp c)) h
theorem op_need (hR : RR s) (x y : Int32) : Op l ad D ia s mX8_need mX9_need [.int x, .int y] := by
  obtain ⟨nb, nr, p, tl, tb, flt, sn, sa, K, H, tn, hG, hC, hM⟩ := hR
  have hbad : RR s := ⟨nb, nr, p, tl, tb, flt, sn, sa, K, H, tn, hG, hC, hM⟩
  have hp := hG.1.1
  have h8 := hp.1.1
  have h4 := hp.1.2
  obtain ⟨f, w, hH⟩ := hC.1
  have hB := ev_hasR (l := l) (ad := ad) (D := D) (ia := ia) (d := 8) (s := s) (o := 1) rfl hH.n4 h4 x
  have hMB := fun s2 (h : (s2 20).1 4 = nI nr) => mv_isReader (l := l) (ad := ad) (D := D) (ia := ia) (d := 7) (s := s2) h h4 x
  have o1 := ev_out0 (l := l) (ad := ad) (D := D) (ia := ia) (d := 8) (s := s) (n := 60) y (y := 60) rfl (by decide)
  have i1 := fun s2 => mv_isFar (l := l) (ad := ad) (D := D) (ia := ia) (d := 7) (s := s2) y
  by_cases cx : inN x nr = true
  · rw [cx] at hB hMB
    by_cases cy : inN y 61 = true
    · rw [cy] at o1 i1
      obtain ⟨r, hr, rfl⟩ := inN_nI cx
      obtain ⟨N, hN, rfl⟩ := inN_nI cy
      obtain ⟨u2, hz⟩ := ev_needL (l := l) (ad := ad) (D := D) (ia := ia) (d := 4) (s := s) hr (N := N) (by omega) hC.1 hp 99 1 (s 2) (by omega)
      rw [up_id] at hz
      have h20 : va_up s 2 u2 20 = s 20 := va_up_ne _ _ (by decide)
      obtain ⟨u3, hk3, hz3⟩ := mv_needL (l := l) (ad := ad) (D := D) (ia := ia) (d := 3) (s := va_up s 2 u2) hM hr (N := N) (by omega) hp 99 1 (va_up s 2 u2 20) (by omega) (KM.eq h20)
      rw [up_id] at hz3
      exact ⟨.int (neV p r N 99 1), _, _, eX8_need (fun C hZ => ⟨_, _, hB, fun h => absurd h (by decide), fun _ => ⟨_, _, o1, fun _ => hz C hZ, fun h => absurd rfl h⟩⟩), eX9_need (fun C hZ => ⟨_, _, hMB _ (by rw [h20]; exact hM.1.2), fun h => absurd h (by decide), fun _ => ⟨_, _, i1 _, fun _ => hz3 C hZ, fun h => absurd h (by decide)⟩⟩), RR_sc hG hC hM (KC.up (o := 2) (v := u2) (by decide)) hk3⟩
    · rw [bool_f cy] at o1 i1
      exact ⟨.int (-1), _, _, eX8_need (fun C hZ => ⟨_, _, hB, fun h => absurd h (by decide), fun _ => ⟨_, _, o1, fun h => absurd h (by decide), fun _ => ⟨rfl, rfl⟩⟩⟩), eX9_need (fun C hZ => ⟨_, _, hMB _ hM.1.2, fun h => absurd h (by decide), fun _ => ⟨_, _, i1 _, fun h => absurd rfl h, fun _ => ⟨rfl, rfl⟩⟩⟩), hbad⟩
  · rw [bool_f cx] at hB hMB
    exact ⟨.int (-1), _, _, eX8_need (fun C hZ => ⟨_, _, hB, fun _ => ⟨rfl, rfl⟩, fun h => absurd rfl h⟩), eX9_need (fun C hZ => ⟨_, _, hMB _ hM.1.2, fun _ => ⟨rfl, rfl⟩, fun h => absurd rfl h⟩), hbad⟩
end OM
