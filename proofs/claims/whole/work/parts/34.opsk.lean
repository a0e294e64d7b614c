/-- behind how many days all are done first -/
def fD (nr : Nat) (mask : Int32) : Nat → Nat → PS × Int32 × Int32 → Int32
  | 0, k, q => if doneB nr 0 q.1 0 = mask then nI k else -4
  | n + 1, k, q => if doneB nr 0 q.1 0 = mask then nI k else fD nr mask n (k + 1) (day nr q)
theorem RR_sc {s s1 : ZS} {v : OV} {nb nr : Nat} {p : PS} {tl : Nat} {tb : Nat → Int32} {flt : Int32} {sn : Nat} {sa : Nat → Nat → Int32} {K : KT} {H : HT} {tn : Int32} (hG : GI nb nr p tl tb sn sa K H) (hC : CR s nb nr p tl tb flt sn sa K H tn) (hM : MR (s 20) nb nr p tl tb flt sn sa K H tn) (kc : KC s s1) (km : KM (s 20) v) : RR (va_up s1 20 v) :=
  ⟨nb, nr, p, tl, tb, flt, sn, sa, K, H, tn, hG, CR_20 (CR_kc kc hC), by rw [va_up_self]; exact MR_km km hM⟩
section OK
variable {l : Launch} {ad : ZA} {D : va_G} {ia : Nat → ClassId} {d nb nr r b o o1 : Nat} {s : ZS} {p : PS} {f m w : Int32}
theorem op_days (hR : RR s) (x : Int32) : Op l ad D ia s mX8_days mX9_days [.int x] := by
  obtain ⟨nb, nr, p, tl, tb, flt, sn, sa, K, H, tn, hG, hC, hM⟩ := hR
  have hbad : RR s := ⟨nb, nr, p, tl, tb, flt, sn, sa, K, H, tn, hG, hC, hM⟩
  have hp := hG.1.1
  have h8 := hp.1.1
  have h4 := hp.1.2
  obtain ⟨f, w, hH⟩ := hC.1
  have ho := ev_out0 (l := l) (ad := ad) (D := D) (ia := ia) (d := 8) (s := s) (n := 30) x (y := 30) rfl (by decide)
  have hi := fun s2 => mv_in0 (l := l) (ad := ad) (D := D) (ia := ia) (d := 8) (s := s2) x (n := 31) (z := 0) (c := 30) (by decide) (by decide)
  by_cases cx : inN x 31 = true
  · rw [cx] at ho hi
    obtain ⟨N, hN, rfl⟩ := inN_nI cx
    obtain ⟨dy, -, hdy, edy⟩ := hG.1.2.2.2.2.2
    obtain ⟨bP, ⟨t, ht, et⟩, eD⟩ := days_bnd N (q := (p, (0 : Int32), (0 : Int32))) hG.1.C
    have edN : (days nr N (p, (0 : Int32), (0 : Int32))).1.2 2 = nI (dy + N) := by rw [eD, ← nI_add, ← edy]
    have ht2 : t ≤ 387 * 4 * 30 := Nat.le_trans ht (Nat.mul_le_mul (Nat.mul_le_mul_left 387 h4) (by omega))
    -- the class
    obtain ⟨v1, hb1, hT⟩ := ev_beginTrial (l := l) (ad := ad) (D := D) (ia := ia) (d := 6) (s := s) hC.1 h8 h4
    have hT1 : HR (va_up s 2 v1 2) nb nr p 0 0 := by rw [va_up_self]; exact hT
    obtain ⟨v2, hb2, hT2⟩ := ev_passDays (l := l) (ad := ad) (D := D) (ia := ia) (d := 3) (o := 2) (N := N) rfl (by omega) hT1 hp
    rw [up_up] at hb2
    have hday : (s 1).1 11 + nI N = nI (dy + N) := by rw [hH.n11, edy, nI_add]
    -- the reference
    have model : ∀ s1, s1 20 = s 20 → ∃ v3, (∀ Q : Option Value → ZS → Prop, True) ∧ KM (s 20) v3 ∧ NR (v3.2.2 1) nb nr (days nr N (p, 0, 0)).1 ∧ v3.1 18 = (days nr N (p, 0, 0)).2.1 ∧ (∀ j, 43 ≤ j → j < 62 → v3.2.2 1 j = (s 20).2.2 0 j) ∧ ∃ v0, Ev l ad D ia 8 mX9_starts [.ref (ad 20 0)] s1 none (va_up s1 20 v0) ∧ Ev l ad D ia 8 mX9_daysGo [.ref (ad 20 0), .int (nI N)] (va_up s1 20 v0) none (va_up s1 20 v3) := by
      intro s1 h1
      obtain ⟨v0, e0, hM0, hk0, ht0⟩ := mv_starts2 (l := l) (ad := ad) (D := D) (ia := ia) (d := 8) (s := s1) (nb := nb) (nr := nr) (p := p) (by rw [h1]; exact hM.1) (by rw [h1]; exact hM.2.2.2.1) h8 h4
      rw [h1] at hk0 ht0
      have hM0b : MM (va_up s1 20 v0 20) nb nr p (v0.1 18) (v0.1 19) (v0.1 20) := by rw [va_up_self]; exact hM0
      obtain ⟨v3, e3, hM3, hk3⟩ := mv_daysGo (l := l) (ad := ad) (D := D) (ia := ia) (d := 3) (N := N) (by omega) hM0b hp
      rw [up_up] at e3
      rw [va_up_self] at hk3
      exact ⟨v3, fun _ => trivial, hk0.M.tr hk3.M, hM3.2.1, hM3.2.2.1, fun j a b => by rw [hk3.2 j a]; exact ht0 j b, v0, e0, e3⟩
    by_cases c1 : dy + N ≤ 999
    · have c1i : nI (dy + N) ≤ 999 := nI_le (a := dy + N) (b := 999) c1 (by decide)
      have c1n : ¬ (999 : Int32) < nI (dy + N) := nI_nlt (a := 999) (b := dy + N) c1 (by omega)
      by_cases c2 : (days nr N (p, (0 : Int32), (0 : Int32))).1.2 1 ≤ 9999
      · have hT2b : HR (va_up s 2 v2 2) nb nr (days nr N (p, 0, 0)).1 (days nr N (p, 0, 0)).2.1 (days nr N (p, 0, 0)).2.2 := by rw [va_up_self]; exact hT2
        obtain ⟨v4, hb4, hT4⟩ := ev_copyFrom (l := l) (ad := ad) (D := D) (ia := ia) (d := 7) (s := va_up s 2 v2) (o := 1) (o1 := 2) rfl rfl (by decide) hT2b h8 h4
        have h20 : va_up (va_up s 2 v2) 1 v4 20 = s 20 := by rw [va_up_ne _ _ (by decide), va_up_ne _ _ (by decide)]
        obtain ⟨v3, -, hk, hnr, hf, htl, v0, e0, e3⟩ := model _ h20
        obtain ⟨a2, hse, ha1, ha2⟩ := mv_settles (l := l) (ad := ad) (D := D) (ia := ia) (d := 8) (s := va_up (va_up (va_up s 2 v2) 1 v4) 20 v3)
        rw [up_up] at hse
        rw [va_up_self] at hse ha1 ha2
        have q42 : (va_up (va_up (va_up s 2 v2) 1 v4) 20 v3 20).2.2 1 (42 : Int32).toNatClampNeg = nI (dy + N) := by
          rw [va_up_self, ← edN]
          exact hnr.2.2 2 (by decide)
        have q41 : (va_up (va_up (va_up s 2 v2) 1 v4) 20 v3 20).2.2 1 (41 : Int32).toNatClampNeg = (days nr N (p, (0 : Int32), (0 : Int32))).1.2 1 := by
          rw [va_up_self]
          exact hnr.2.2 1 (by decide)
        refine ⟨.int (days nr N (p, 0, 0)).2.1, _, _, eX8_days ⟨_, _, ho, fun _ => ⟨fun _ => ⟨_, hb1, _, hb2, fun _ => ⟨_, hb4, ?_, rfl⟩, fun h => ?_⟩, fun h => ?_⟩, fun h => absurd rfl h⟩, eX9_days ⟨_, _, hi _, fun _ => ⟨_, e0, _, e3, vp_in_nI (n := 42) (by decide) (by decide), fun h => ?_, fun _ => ⟨vp_in_nI (n := 41) (by decide) (by decide), fun _ => ⟨_, hse, ?_, rfl⟩, fun h => ?_⟩⟩, fun h => absurd h (by decide)⟩, nb, nr, (days nr N (p, 0, 0)).1, tl, tb, flt, sn, sa, K, H, tn, ⟨bP.B ?_ ⟨dy + N, by omega, c1, edN⟩, hG.2⟩, CR_20 (CR_h (CR_kc (KC.up (by decide)) hC) ⟨0, 0, hT4⟩), ?_⟩
        · rw [va_up_self, hT2.n12]
        · rw [va_up_self, hT2.n10] at h
          exact absurd c2 h
        · rw [hday] at h
          exact absurd c1i h
        · rw [q42] at h
          exact absurd h c1n
        · rw [va_up_self, ← hf]
          rfl
        · rw [q41] at h
          exact absurd c2 h
        · rw [et] at c2 ⊢
          exact clk_rng hG.1.2.2.2.2.1 (by omega) c2
        · rw [va_up_self]
          exact MR_set hM h8 h4 hG.2.2.1.1 hk hnr htl ha1 ha2
      · have h20 : va_up s 2 v2 20 = s 20 := va_up_ne _ _ (by decide)
        obtain ⟨v3, -, hk, hnr, hf, htl, v0, e0, e3⟩ := model _ h20
        have q42 : (va_up (va_up s 2 v2) 20 v3 20).2.2 1 (42 : Int32).toNatClampNeg = nI (dy + N) := by
          rw [va_up_self, ← edN]
          exact hnr.2.2 2 (by decide)
        have q41 : (va_up (va_up s 2 v2) 20 v3 20).2.2 1 (41 : Int32).toNatClampNeg = (days nr N (p, (0 : Int32), (0 : Int32))).1.2 1 := by
          rw [va_up_self]
          exact hnr.2.2 1 (by decide)
        refine ⟨.int (-3), _, _, eX8_days ⟨_, _, ho, fun _ => ⟨fun _ => ⟨_, hb1, _, hb2, fun h => ?_, fun _ => ⟨rfl, rfl⟩⟩, fun h => ?_⟩, fun h => absurd rfl h⟩, eX9_days ⟨_, _, hi _, fun _ => ⟨_, e0, _, e3, vp_in_nI (n := 42) (by decide) (by decide), fun h => ?_, fun _ => ⟨vp_in_nI (n := 41) (by decide) (by decide), fun h => ?_, fun _ => ⟨rfl, rfl⟩⟩⟩, fun h => absurd h (by decide)⟩, RR_sc hG hC hM (KC.up (by decide)) hk⟩
        · rw [va_up_self, hT2.n10] at h
          exact absurd h c2
        · rw [hday] at h
          exact absurd c1i h
        · rw [q42] at h
          exact absurd h c1n
        · rw [q41] at h
          exact absurd h c2
    · have c1i : ¬ nI (dy + N) ≤ 999 := nI_ge (a := 999) (b := dy + N) (by omega) (by omega)
      have c1n : (999 : Int32) < nI (dy + N) := nI_lt (a := 999) (b := dy + N) (by omega) (by omega)
      obtain ⟨v3, -, hk, hnr, hf, htl, v0, e0, e3⟩ := model s rfl
      have q42 : (va_up s 20 v3 20).2.2 1 (42 : Int32).toNatClampNeg = nI (dy + N) := by
        rw [va_up_self, ← edN]
        exact hnr.2.2 2 (by decide)
      refine ⟨.int (-3), _, _, eX8_days ⟨_, _, ho, fun _ => ⟨fun h => ?_, fun _ => ⟨rfl, rfl⟩⟩, fun h => absurd rfl h⟩, eX9_days ⟨_, _, hi _, fun _ => ⟨_, e0, _, e3, vp_in_nI (n := 42) (by decide) (by decide), fun _ => ⟨rfl, rfl⟩, fun h => ?_⟩, fun h => absurd h (by decide)⟩, RR_sc hG hC hM (KC.rf s) hk⟩
      · rw [hday] at h
        exact absurd h c1i
      · rw [q42] at h
        exact absurd c1n h
  · rw [bool_f cx] at ho hi
    exact ⟨.int (-1), _, _, eX8_days ⟨_, _, ho, fun h => absurd h (by decide), fun _ => ⟨rfl, rfl⟩⟩, eX9_days ⟨_, _, hi _, fun h => absurd rfl h, fun _ => ⟨rfl, rfl⟩⟩, hbad⟩
theorem op_vertigo (hR : RR s) (x : Int32) : Op l ad D ia s mX8_vertigo mX9_vertigo [.int x] := by
  obtain ⟨nb, nr, p, tl, tb, flt, sn, sa, K, H, tn, hG, hC, hM⟩ := hR
  have hp := hG.1.1
  have h8 := hp.1.1
  have h4 := hp.1.2
  obtain ⟨f, w, hH⟩ := hC.1
  have hB := ev_hasR (l := l) (ad := ad) (D := D) (ia := ia) (d := 8) (s := s) (o := 1) rfl hH.n4 h4 x
  have hMB := fun s2 (h : (s2 20).1 4 = nI nr) => mv_isReader (l := l) (ad := ad) (D := D) (ia := ia) (d := 7) (s := s2) h h4 x
  by_cases cx : inN x nr = true
  · rw [cx] at hB hMB
    obtain ⟨r, hr, rfl⟩ := inN_nI cx
    obtain ⟨v1, hb1, hT⟩ := ev_beginTrial (l := l) (ad := ad) (D := D) (ia := ia) (d := 6) (s := s) hC.1 h8 h4
    have hT1 : HR (va_up s 2 v1 2) nb nr p 0 0 := by rw [va_up_self]; exact hT
    obtain ⟨v2, hb2, hT2⟩ := ev_spendDay (l := l) (ad := ad) (D := D) (ia := ia) (d := 5) (o := 2) rfl hT1 hp hr
    rw [up_up] at hb2
    have h20 : va_up s 2 v2 20 = s 20 := va_up_ne _ _ (by decide)
    obtain ⟨v0, e0, hM0, hk0⟩ := mv_starts (l := l) (ad := ad) (D := D) (ia := ia) (d := 8) (s := va_up s 2 v2) (nb := nb) (nr := nr) (p := p) (by rw [h20]; exact hM.1) (by rw [h20]; exact hM.2.2.2.1) h8 h4
    rw [h20] at hk0
    have hM0b : MM (va_up (va_up s 2 v2) 20 v0 20) nb nr p (v0.1 18) (v0.1 19) (v0.1 20) := by rw [va_up_self]; exact hM0
    obtain ⟨v3, e3, hM3, hk3, q3⟩ := mv_readerGoes (l := l) (ad := ad) (D := D) (ia := ia) (d := 5) hM0b hp hr
    rw [up_up] at e3
    rw [va_up_self] at hk3
    have gvb : ∀ n (p : PS) z (f w f2 w2 : Int32), (gd n p r z f w).2.2.2 = (gd n p r z f2 w2).2.2.2 := by
      intro n
      induction n with
      | zero => intro p z f w f2 w2; rfl
      | succ n ih =>
        intro p z f w f2 w2
        unfold gd
        by_cases c1 : p.1 4 r = -4
        · rw [if_pos c1, if_pos c1]
        · rw [if_neg c1, if_neg c1]
          by_cases c2 : hadq p r (bk (p.1 4 r)) = 0
          · rw [if_pos c2, if_pos c2]
            by_cases c3 : z + dzz (p.1 3 r) (p.1 1 (bk (p.1 4 r))) ≤ p.1 5 r
            · rw [if_pos c3, if_pos c3]
              exact ih _ _ _ _ _ _
            · rw [if_neg c3, if_neg c3]
          · rw [if_neg c2, if_neg c2]
    refine ⟨.int (gd 9 p r 0 0 0).2.2.2, _, _, eX8_vertigo ⟨_, _, hB, fun _ => ⟨_, hb1, _, _, hb2, rfl, rfl⟩, fun h => absurd h (by decide)⟩, eX9_vertigo ⟨_, _, hMB _ (by rw [h20]; exact hM.1.2), fun _ => ⟨_, e0, _, e3, ?_, rfl⟩, fun h => absurd h (by decide)⟩, RR_sc hG hC hM (KC.up (by decide)) (hk0.M.tr hk3.M)⟩
    rw [va_up_self, q3]
    exact congrArg (fun q => some (Value.int q)) (gvb 9 p 0 _ _ _ _)
  · rw [bool_f cx] at hB hMB
    exact ⟨.int (-1), _, _, eX8_vertigo ⟨_, _, hB, fun h => absurd rfl h, fun _ => ⟨rfl, rfl⟩⟩, eX9_vertigo ⟨_, _, hMB _ hM.1.2, fun h => absurd rfl h, fun _ => ⟨rfl, rfl⟩⟩, nb, nr, p, tl, tb, flt, sn, sa, K, H, tn, hG, hC, hM⟩
theorem ev_tillAll {N : Nat} (hN : N ≤ 60) {mask : Int32} : ∀ (n k : Nat) (q : PS × Int32 × Int32) (v : OV), k + n = N → HR v nb nr q.1 q.2.1 q.2.2 → PI nb nr q.1 → ∃ v2, ∀ C : ZC, Zok ad D ia C (d + 5) cX8_daysTillAllDone 4 RX8 (some .int) → Z l ad D ia C (some (.int (fD nr mask n k q))) (va_up s 2 v2) 14 [(0, .ref (ad 0 0)), (1, .int (nI N)), (2, .int mask), (3, .int (nI k))] [] (va_up s 2 v) := by
  intro n
  induction n with
  | zero =>
    intro k q v hk hH hp
    have hH2 : HR (va_up s 2 v 2) nb nr q.1 q.2.1 q.2.2 := by rw [va_up_self]; exact hH
    have hw := ev_whoAreDone (l := l) (ad := ad) (D := D) (ia := ia) (d := d + 2) (o := 2) rfl hH2 hp
    have hnl : ¬ nI N < nI k := nI_nlt (by omega) (by omega)
    unfold fD
    by_cases c : doneB nr 0 q.1 0 = mask
    · rw [if_pos c]
      exact ⟨v, fun C hC => bX8_daysTillAllDone_14 hC ⟨fun h => absurd h hnl, fun _ => ⟨_, _, hw, fun h => absurd c h, fun _ => ⟨rfl, rfl⟩⟩⟩⟩
    · rw [if_neg c]
      obtain ⟨v1, hb1, -⟩ := ev_passDay (l := l) (ad := ad) (D := D) (ia := ia) (d := d) (o := 2) rfl hH2 hp
      rw [up_up] at hb1
      refine ⟨v1, fun C hC => bX8_daysTillAllDone_14 hC ⟨fun h => absurd h hnl, fun _ => ⟨_, _, hw, fun _ => ⟨_, hb1, ?_⟩, fun h => absurd h c⟩⟩⟩
      rw [nI_1]
      exact bX8_daysTillAllDone_14 hC ⟨fun _ => ⟨rfl, rfl⟩, fun h => absurd (nI_lt (by omega) (by omega)) h⟩
  | succ n ih =>
    intro k q v hk hH hp
    have hH2 : HR (va_up s 2 v 2) nb nr q.1 q.2.1 q.2.2 := by rw [va_up_self]; exact hH
    have hw := ev_whoAreDone (l := l) (ad := ad) (D := D) (ia := ia) (d := d + 2) (o := 2) rfl hH2 hp
    have hnl : ¬ nI N < nI k := nI_nlt (by omega) (by omega)
    unfold fD
    by_cases c : doneB nr 0 q.1 0 = mask
    · rw [if_pos c]
      exact ⟨v, fun C hC => bX8_daysTillAllDone_14 hC ⟨fun h => absurd h hnl, fun _ => ⟨_, _, hw, fun h => absurd c h, fun _ => ⟨rfl, rfl⟩⟩⟩⟩
    · rw [if_neg c]
      obtain ⟨v1, hb1, hH1⟩ := ev_passDay (l := l) (ad := ad) (D := D) (ia := ia) (d := d) (o := 2) rfl hH2 hp
      rw [up_up] at hb1
      obtain ⟨v2, hz⟩ := ih (k + 1) (day nr q) v1 (by omega) hH1 (PI_day hp)
      refine ⟨v2, fun C hC => bX8_daysTillAllDone_14 hC ⟨fun h => absurd h hnl, fun _ => ⟨_, _, hw, fun _ => ⟨_, hb1, ?_⟩, fun h => absurd h c⟩⟩⟩
      rw [nI_1]
      exact hz C hC
end OK
