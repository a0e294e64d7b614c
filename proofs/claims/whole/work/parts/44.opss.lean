def drV (v : Int32) : Int32 := v * 1103515245 + 12345
def drG (v : Int32) : Int32 := (drV v >>> ((16 : Int32) &&& 31)) &&& (32767 : Int32)
def drP (nb nr : Nat) (v : Int32) (p : PS) : PS := pz (pr (pr p 4 (bk (rm32 (drG v) (nI nr))) (rm32 (drG v / 8) (nI nb))) 6 (bk (rm32 (drG v) (nI nr))) 0) 0 (rm32 (drG v / 64) 8)
def drD (nb nr : Nat) : Nat → Int32 → PS × Int32 × Int32 → PS × Int32 × Int32
  | 0, _, q => q
  | k + 1, v, q => drD nb nr k (drV v) (day nr (drP nb nr v q.1, q.2.1, q.2.2))
theorem drG_r {nr : Nat} (h : 0 < nr) (h4 : nr ≤ 4) (v : Int32) : ∃ r, r < nr ∧ rm32 (drG v) (nI nr) = nI r := by
  obtain ⟨g, hg, e⟩ := got_nI (drV v >>> ((16 : Int32) &&& 31))
  refine ⟨g % nr, Nat.mod_lt _ h, ?_⟩
  unfold drG
  rw [e, rm_nI (by omega) h (by omega)]
theorem drG_b {nb : Nat} (h : 0 < nb) (h8 : nb ≤ 8) (v : Int32) : ∃ b, b < nb ∧ rm32 (drG v / 8) (nI nb) = nI b := by
  obtain ⟨g, hg, e⟩ := got_nI (drV v >>> ((16 : Int32) &&& 31))
  refine ⟨g / 8 % nb, Nat.mod_lt _ h, ?_⟩
  unfold drG
  have e8 : nI g / 8 = nI (g / 8) := pk_div (d := 8) (by omega) (by omega) (by omega)
  rw [e, e8, rm_nI (by omega) h (by omega)]
theorem PI_6 {nb nr : Nat} {p : PS} {b : Nat} {x : Int32} (h : PI nb nr p) : PI nb nr (pr p 6 b x) := by
  obtain ⟨h1, h2, h3, h4⟩ := h
  refine ⟨h1, ?_, ?_, ?_⟩
  · intro b hb
    rw [pr_sta (by decide)]
    exact h2 b hb
  · intro q hq
    rw [pr_sta (by decide)]
    exact h3 q hq
  · intro b hb
    rw [pr_sta (by decide)]
    exact h4 b hb
theorem PI_dr {nb nr : Nat} {p : PS} (h : PI nb nr p) (hb : 0 < nb) (v : Int32) : PI nb nr (drP nb nr v p) := by
  obtain ⟨b, hb1, e⟩ := drG_b hb h.1.1 v
  unfold drP
  exact PI_num (PI_6 (PI_want h (Or.inr ⟨b, hb1, e⟩)))
theorem nI_n0 {k : Nat} (h : 0 < k) (h2 : k < 2 ^ 31) : ¬ nI k = 0 := fun e => by
  have := (nI_eq (a := k) (b := 0) (by omega) (by omega)).mp e
  omega
section OSS
variable {l : Launch} {ad : ZA} {D : va_G} {ia : Nat → ClassId} {d nb nr r b o o1 : Nat} {s : ZS} {p : PS} {f m w : Int32}
def inL (x : Int32) : Bool := decide (1 ≤ x.toInt ∧ x.toInt ≤ 60)
theorem i32_60 : (60 : Int32).toInt = 60 := by decide
theorem inL_nI {x : Int32} (h : inL x = true) : ∃ k, 1 ≤ k ∧ k ≤ 60 ∧ x = nI k := by
  have h := of_decide_eq_true h
  exact ⟨x.toInt.toNat, by omega, by omega, nI_of_toInt (by omega)⟩
theorem ev_outL (x : Int32) : Ev l ad D ia d mX8_outside [.int x, .int 1, .int 60] s (some (.int (b1 (!inL x)))) s := by
  unfold inL
  refine eX8_outside ⟨fun h1 => ⟨?_, rfl⟩, fun h1 => ⟨fun h2 => ⟨?_, rfl⟩, fun h2 => ⟨?_, rfl⟩⟩⟩
  · rw [Int32.lt_iff_toInt_lt, i32_1] at h1
    rw [decide_eq_false (by omega)]
    rfl
  · rw [Int32.lt_iff_toInt_lt, i32_1] at h1
    rw [Int32.le_iff_toInt_le, i32_60] at h2
    rw [decide_eq_true (by omega)]
    rfl
  · rw [Int32.le_iff_toInt_le, i32_60] at h2
    rw [decide_eq_false (by omega)]
    rfl
theorem mv_inL (x : Int32) : Ev l ad D ia d mX9_in [.long x.toInt64, .long 1, .long 60] s (some (.int (b1 (inL x)))) s := by
  have h := mv_in (l := l) (ad := ad) (D := D) (ia := ia) (d := d) (s := s) x.toInt64 1 60
  rw [i64_toInt] at h
  exact h
theorem ev_driftL (hb0 : 0 < nb) (hr0 : 0 < nr) {N : Nat} (hN : N ≤ 60) (y : Int32) (hH1 : HQ (s 1) nb nr p) : ∀ (k i : Nat) (q : PS × Int32 × Int32) (u : OV) (v : Int32), i + k = N → HR u nb nr q.1 q.2.1 q.2.2 → PI nb nr q.1 → ∃ u2, ∀ C : ZC, Zok ad D ia C (d + 5) cX8_drift 10 RX8 (some .int) → Z l ad D ia C (some (.int (if y = 0 then (drD nb nr k v q).2.1 else (drD nb nr k v q).1.2 1 - p.2 1))) (va_up s 2 u2) 62 [(0, .ref (ad 0 0)), (2, .int (nI N)), (3, .int y), (4, .int (nI nb)), (5, .int (nI nr)), (6, .int v), (7, .int (nI i))] [] (va_up s 2 u) := by
  intro k
  induction k with
  | zero =>
    intro i q u v hi hH hp
    refine ⟨u, fun C hC => bX8_drift_62 hC ⟨fun _ => ⟨fun h => ⟨q.1.2 1 - p.2 1, va_up s 2 u, eX8_trialMinutes ⟨?_, rfl⟩, ?_, rfl⟩, fun h => ⟨?_, rfl⟩⟩, fun h => absurd (nI_le (a := N) (b := i) (by omega) (by omega)) h⟩⟩
    · obtain ⟨f, w, hH1⟩ := hH1
      rw [va_up_self, va_up_ne _ _ (by decide), hH.n10, hH1.n10]
    · rw [if_neg h]
      rfl
    · rw [if_pos h, va_up_self, hH.n12]
      rfl
  | succ k ih =>
    intro i q u v hi hH hp
    have h4 := hp.1.2
    have h8 := hp.1.1
    obtain ⟨r, hr, er⟩ := drG_r hr0 h4 v
    obtain ⟨b, hb, eb⟩ := drG_b hb0 h8 v
    have eg : (ushr ((v * 1103515245) + 12345) 16) &&& (32767 : Int32) = drG v := got_eq (drV v)
    have ebk : bk (nI r) = r := nI_clamp (by omega)
    have hH1' := ((hH.w6 r (nI b)).w8 r 0).s9 (rm32 (drG v / 64) 8)
    have edr : pz (pr (pr q.1 4 r (nI b)) 6 r 0) 0 (rm32 (drG v / 64) 8) = drP nb nr v q.1 := by
      unfold drP
      rw [er, eb, ebk]
    rw [edr] at hH1'
    generalize hu1 : setI (setA (setA u 6 (upd (u.2.2 6) r (nI b))) 8 (upd ((setA u 6 (upd (u.2.2 6) r (nI b))).2.2 8) r 0)) 9 (rm32 (drG v / 64) 8) = u1 at hH1'
    have hH2 : HR (va_up s 2 u1 2) nb nr (drP nb nr v q.1) q.2.1 q.2.2 := by rw [va_up_self]; exact hH1'
    obtain ⟨v2, hb2, hH3⟩ := ev_passDay (l := l) (ad := ad) (D := D) (ia := ia) (d := d) (o := 2) rfl hH2 (PI_dr hp hb0 v)
    rw [up_up] at hb2
    obtain ⟨u2, hz⟩ := ih (i + 1) (day nr (drP nb nr v q.1, q.2.1, q.2.2)) v2 (drV v) (by omega) hH3 (PI_day (PI_dr hp hb0 v))
    refine ⟨u2, fun C hC => bX8_drift_62 hC ⟨fun h => absurd h (nI_ge (a := i) (b := N) (by omega) (by omega)), fun _ => ?_⟩⟩
    rw [eg, er, eb, nI_clamp (by omega)]
    refine ⟨nI_n0 (by omega) (by omega), nI_n0 (by omega) (by omega), vp_in_nI (by omega) (by omega), fun s1 e1 => ⟨vp_in_nI (by omega) (by omega), fun s2 e2 => fun s3 e3 => ⟨va_up s 2 v2, ?_, ?_⟩⟩⟩
    · rw [stA_up] at e1
      subst e1
      rw [stA_up] at e2
      subst e2
      rw [stI_up, hu1] at e3
      subst e3
      exact hb2
    · rw [nI_1]
      exact hz C hC
theorem mv_driftL (hb0 : 0 < nb) (hr0 : 0 < nr) {N : Nat} (hN : N ≤ 60) (y : Int32) : ∀ (k i : Nat) (q : PS × Int32 × Int32) (m : Int32) (u : OV) (v : Int32), i + k = N → MM u nb nr q.1 q.2.1 m q.2.2 → PI nb nr q.1 → ∃ u2, KN u u2 ∧ ∀ C : ZC, Zok ad D ia C (d + 5) cX9_drift 8 RX9 (some .int) → Z l ad D ia C (some (.int (if y = 0 then (drD nb nr k v q).2.1 else m + ((drD nb nr k v q).1.2 1 - q.1.2 1)))) (va_up s 20 u2) 52 [(0, .ref (ad 20 0)), (2, .int (nI N)), (3, .int y), (4, .int v), (5, .int (nI i))] [] (va_up s 20 u) := by
  intro k
  induction k with
  | zero =>
    intro i q m u v hi hM hp
    refine ⟨u, KN.rf u, fun C hC => bX9_drift_52 hC ⟨fun _ => ⟨fun h => ⟨?_, rfl⟩, fun h => ⟨?_, rfl⟩⟩, fun h => absurd (nI_le (a := N) (b := i) (by omega) (by omega)) h⟩⟩
    · rw [if_neg h, va_up_self, hM.2.2.2.1]
      show some (Value.int (m + (q.1.2 1 - q.1.2 1))) = _
      rw [mi0]
    · rw [if_pos h, va_up_self, hM.2.2.1]
      rfl
  | succ k ih =>
    intro i q m u v hi hM hp
    have h4 := hp.1.2
    have h8 := hp.1.1
    obtain ⟨r, hr, er⟩ := drG_r hr0 h4 v
    obtain ⟨b, hb, eb⟩ := drG_b hb0 h8 v
    have ebk : bk (nI r) = r := nI_clamp (by omega)
    have edr : pz (pr (pr q.1 4 r (nI b)) 6 r 0) 0 (rm32 (drG v / 64) 8) = drP nb nr v q.1 := by
      unfold drP
      rw [er, eb, ebk]
    have hMa : MM (va_up s 20 u 20) nb nr q.1 q.2.1 m q.2.2 := by rw [va_up_self]; exact hM
    obtain ⟨v1, e1, hM1, hk1, -⟩ := mv_beR (l := l) (ad := ad) (D := D) (ia := ia) (d := d + 4) (c := 1) hMa hp (by decide) hr (nI b)
    rw [up_up] at e1
    rw [va_up_self] at hk1
    have hp1 : PI nb nr (pr q.1 4 r (nI b)) := PI_want hp (Or.inr ⟨b, hb, rfl⟩)
    have hM1b : MM (va_up s 20 v1 20) nb nr (pr q.1 4 r (nI b)) q.2.1 m q.2.2 := by rw [va_up_self]; exact hM1
    obtain ⟨v2, e2, hM2, hk2, -⟩ := mv_beR (l := l) (ad := ad) (D := D) (ia := ia) (d := d + 4) (c := 3) hM1b hp1 (by decide) hr 0
    rw [up_up] at e2
    rw [va_up_self] at hk2
    have hM3 := hM2.now (hM2.2.1.num h8 h4 (j := 0) (by decide) (rm32 (drG v / 64) 8))
    have hk3 : KN v2 (setA v2 1 (upd (v2.2.2 1) (40 + 0) (rm32 (drG v / 64) 8))) := KN.A _ _ (by omega) (fun _ _ => rfl)
    have hM3b : MM (va_up s 20 (setA v2 1 (upd (v2.2.2 1) (40 + 0) (rm32 (drG v / 64) 8))) 20) nb nr (drP nb nr v q.1) q.2.1 m q.2.2 := by
      rw [va_up_self, ← edr]
      exact hM3
    obtain ⟨v4, e4, hM4, hk4⟩ := mv_dayGoes (l := l) (ad := ad) (D := D) (ia := ia) (d := d) hM3b (PI_dr hp hb0 v)
    rw [up_up] at e4
    rw [va_up_self] at hk4
    obtain ⟨u2, hk5, hz⟩ := ih (i + 1) (day nr (drP nb nr v q.1, q.2.1, q.2.2)) (m + ((day nr (drP nb nr v q.1, q.2.1, q.2.2)).1.2 1 - (drP nb nr v q.1).2 1)) v4 (drV v) (by omega) hM4 (PI_day (PI_dr hp hb0 v))
    have ec : (drP nb nr v q.1).2 1 = q.1.2 1 := rfl
    rw [ec, mi2] at hz
    refine ⟨u2, (((hk1.tr hk2).tr hk3).tr hk4).tr hk5, fun C hC => bX9_drift_52 hC ⟨fun h => absurd h (nI_ge (a := i) (b := N) (by omega) (by omega)), fun _ => ?_⟩⟩
    have er' : rm32 (((v * 1103515245 + 12345) >>> ((16 : Int32) &&& 31)) &&& (32767 : Int32)) ((va_up s 20 u 20).1 4) = nI r := by
      rw [va_up_self, hM.1.2]
      exact er
    have eb' : rm32 ((((v * 1103515245 + 12345) >>> ((16 : Int32) &&& 31)) &&& (32767 : Int32)) / 8) ((va_up s 20 u 20).1 3) = nI b := by
      rw [va_up_self, hM.1.1]
      exact eb
    rw [er', eb']
    refine ⟨?_, ?_, _, e1, _, e2, vp_in_nI (n := 40) (by decide) (by decide), fun s3 e3 => ⟨va_up s 20 v4, ?_, ?_⟩⟩
    · rw [va_up_self, hM.1.2]
      exact nI_n0 (by omega) (by omega)
    · rw [va_up_self, hM.1.1]
      exact nI_n0 (by omega) (by omega)
    · rw [c40, stA_up] at e3
      subst e3
      exact e4
    · rw [nI_1]
      exact hz C hC
theorem op_drift (hR : RR s) (z x y : Int32) : Op l ad D ia s mX8_drift mX9_drift [.int z, .int x, .int y] := by
  obtain ⟨nb, nr, p, tl, tb, flt, sn, sa, K, H, tn, hG, hC, hM⟩ := hR
  have hbad : RR s := ⟨nb, nr, p, tl, tb, flt, sn, sa, K, H, tn, hG, hC, hM⟩
  have hp := hG.1.1
  have h8 := hp.1.1
  have h4 := hp.1.2
  obtain ⟨f, w, hH⟩ := hC.1
  have o1 := ev_outL (l := l) (ad := ad) (D := D) (ia := ia) (d := 8) (s := s) x
  have i1 := fun s2 => mv_inL (l := l) (ad := ad) (D := D) (ia := ia) (d := 8) (s := s2) x
  have o2 := ev_out0 (l := l) (ad := ad) (D := D) (ia := ia) (d := 8) (s := s) (n := 1) y (y := 1) rfl (by decide)
  have i2 := fun s2 => mv_isPart (l := l) (ad := ad) (D := D) (ia := ia) (d := 7) (s := s2) y
  by_cases cx : inL x = true
  · rw [cx] at o1 i1
    by_cases cy : inN y 2 = true
    · rw [cy] at o2 i2
      obtain ⟨N, hN1, hN, rfl⟩ := inL_nI cx
      by_cases cb : nb = 0
      · have eb : (s 1).1 0 = 0 := by rw [hH.n0, cb]; rfl
        have eb2 : (s 20).1 3 = 0 := by rw [hM.1.1, cb]; rfl
        refine ⟨.int (-2), _, _, eX8_drift (fun C hZ => ⟨_, _, o1, fun h => absurd rfl h, fun _ => ⟨_, _, o2, fun _ => ⟨fun _ => ⟨rfl, rfl⟩, fun h => ?_⟩, fun h => absurd rfl h⟩⟩), eX9_drift (fun C hZ => ⟨_, _, i1 _, fun h => absurd h (by decide), fun _ => ⟨_, _, i2 _, fun _ => ⟨fun _ => ⟨rfl, rfl⟩, fun h => absurd eb2 h⟩, fun h => absurd h (by decide)⟩⟩), hbad⟩
        rw [eb] at h
        exact absurd (by decide) h
      · have eb : ¬ (s 1).1 0 ≤ 0 := by rw [hH.n0]; exact nI_ge (a := 0) (b := nb) (by omega) (by omega)
        have eb2 : ¬ (s 20).1 3 = 0 := by rw [hM.1.1]; exact nI_n0 (by omega) (by omega)
        by_cases cr : nr = 0
        · have er : ¬ 0 < (s 1).1 4 := by rw [hH.n4, cr]; decide
          have er2 : (s 20).1 4 = 0 := by rw [hM.1.2, cr]; rfl
          exact ⟨.int (-2), _, _, eX8_drift (fun C hZ => ⟨_, _, o1, fun h => absurd rfl h, fun _ => ⟨_, _, o2, fun _ => ⟨fun h => absurd h eb, fun _ => ⟨fun h => absurd h er, fun _ => ⟨rfl, rfl⟩⟩⟩, fun h => absurd rfl h⟩⟩), eX9_drift (fun C hZ => ⟨_, _, i1 _, fun h => absurd h (by decide), fun _ => ⟨_, _, i2 _, fun _ => ⟨fun h => absurd h eb2, fun _ => ⟨fun h => absurd er2 h, fun _ => ⟨rfl, rfl⟩⟩⟩, fun h => absurd h (by decide)⟩⟩), hbad⟩
        · have er : 0 < (s 1).1 4 := by rw [hH.n4]; exact nI_lt (a := 0) (b := nr) (by omega) (by omega)
          have er2 : ¬ (s 20).1 4 = 0 := by rw [hM.1.2]; exact nI_n0 (by omega) (by omega)
          obtain ⟨v1, hb1, hT⟩ := ev_beginTrial (l := l) (ad := ad) (D := D) (ia := ia) (d := 6) (s := s) hC.1 h8 h4
          obtain ⟨u2, hz⟩ := ev_driftL (l := l) (ad := ad) (D := D) (ia := ia) (d := 4) (s := s) (by omega) (by omega) (N := N) (by omega) y hC.1 N 0 (p, 0, 0) v1 z (by omega) hT hp
          have h20 : va_up s 2 u2 20 = s 20 := va_up_ne _ _ (by decide)
          obtain ⟨v0, e0, hM0, hk0, -⟩ := mv_begin (l := l) (ad := ad) (D := D) (ia := ia) (d := 8) (s1 := va_up s 2 u2) hM (KM.eq h20) h8 h4
          have hM0b : MM (va_up (va_up s 2 u2) 20 v0 20) nb nr p (v0.1 18) (v0.1 19) (v0.1 20) := by rw [va_up_self]; exact hM0
          obtain ⟨v3, e3, hM3, hk3⟩ := mv_startsCounting (l := l) (ad := ad) (D := D) (ia := ia) (d := 8) hM0b
          rw [up_up] at e3
          rw [va_up_self] at hk3
          obtain ⟨u3, hk4, hz3⟩ := mv_driftL (l := l) (ad := ad) (D := D) (ia := ia) (d := 4) (s := va_up s 2 u2) (nb := nb) (nr := nr) (by omega) (by omega) (N := N) (by omega) y N 0 (p, 0, 0) 0 v3 z (by omega) hM3 hp
          have e0m : (0 : Int32) + ((drD nb nr N z (p, 0, 0)).1.2 1 - p.2 1) = (drD nb nr N z (p, 0, 0)).1.2 1 - p.2 1 := by grind
          rw [e0m] at hz3
          refine ⟨.int (if y = 0 then (drD nb nr N z (p, 0, 0)).2.1 else (drD nb nr N z (p, 0, 0)).1.2 1 - p.2 1), _, _, eX8_drift (fun C hZ => ⟨_, _, o1, fun h => absurd rfl h, fun _ => ⟨_, _, o2, fun _ => ⟨fun h => absurd h eb, fun _ => ⟨fun _ => ⟨_, hb1, ?_⟩, fun h => absurd er h⟩⟩, fun h => absurd rfl h⟩⟩), eX9_drift (fun C hZ => ⟨_, _, i1 _, fun h => absurd h (by decide), fun _ => ⟨_, _, i2 _, fun _ => ⟨fun h => ?_, fun _ => ⟨fun _ => ⟨_, e0, _, e3, hz3 C hZ⟩, fun h => ?_⟩⟩, fun h => absurd h (by decide)⟩⟩), RR_sc hG hC hM (KC.up (o := 2) (v := u2) (by decide)) ((hk0.tr hk3.M).tr hk4.M)⟩
          · rw [hH.n0, hH.n4]
            exact hz C hZ
          · rw [h20] at h
            exact absurd h eb2
          · rw [h20] at h
            exact absurd h er2
    · rw [bool_f cy] at o2 i2
      exact ⟨.int (-1), _, _, eX8_drift (fun C hZ => ⟨_, _, o1, fun h => absurd rfl h, fun _ => ⟨_, _, o2, fun h => absurd h (by decide), fun _ => ⟨rfl, rfl⟩⟩⟩), eX9_drift (fun C hZ => ⟨_, _, i1 _, fun h => absurd h (by decide), fun _ => ⟨_, _, i2 _, fun h => absurd rfl h, fun _ => ⟨rfl, rfl⟩⟩⟩), hbad⟩
  · rw [bool_f cx] at o1 i1
    exact ⟨.int (-1), _, _, eX8_drift (fun C hZ => ⟨_, _, o1, fun _ => ⟨rfl, rfl⟩, fun h => absurd h (by decide)⟩), eX9_drift (fun C hZ => ⟨_, _, i1 _, fun _ => ⟨rfl, rfl⟩, fun h => absurd rfl h⟩), hbad⟩
end OSS
