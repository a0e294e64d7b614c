def ruX (c : Nat) (f m w fst : Int32) : Int32 := if c = 0 then f else if c = 1 then m else if c = 2 then w else fst
section OL
variable {l : Launch} {ad : ZA} {D : va_G} {ia : Nat → ClassId} {d nb nr r b o o1 : Nat} {s : ZS} {p : PS} {f m w : Int32}
theorem mv_runsE {C : ZC} {N c : Nat} {v : OV} {fst : Int32} {q : PS × Int32 × Int32} (hN : N ≤ 60) (hc : c < 4) (hM : MM v nb nr q.1 q.2.1 m q.2.2) (hC : Zok ad D ia C (d + 5) cX9_runs 5 RX9 (some .int)) : Z l ad D ia C (some (.int (ruX c q.2.1 m q.2.2 fst))) (va_up s 20 v) 35 [(0, .ref (ad 20 0)), (1, .int (nI N)), (2, .int (nI c)), (3, .int fst), (4, .int (nI (N + 1)))] [] (va_up s 20 v) := by
  have ce : ∀ k, k < 4 → nI c = nI k → c = k := fun k hk h => (nI_eq (by omega) (by omega)).mp h
  refine bX9_runs_35 hC ⟨fun _ => ⟨fun h0 => ⟨fun h1 => ⟨fun h2 => ⟨?_, rfl⟩, fun h2 => ⟨?_, rfl⟩⟩, fun h1 => ⟨?_, rfl⟩⟩, fun h0 => ⟨?_, rfl⟩⟩, fun h => absurd (nI_lt (by omega) (by omega)) h⟩
  · have a0 : ¬ c = 0 := fun e => h0 (by rw [e]; rfl)
    have a1 : ¬ c = 1 := fun e => h1 (by rw [e]; rfl)
    have a2 : ¬ c = 2 := fun e => h2 (by rw [e]; rfl)
    unfold ruX
    rw [if_neg a0, if_neg a1, if_neg a2]
  · have := ce 2 (by omega) h2
    subst this
    rw [va_up_self, hM.2.2.2.2]
    rfl
  · have := ce 1 (by omega) h1
    subst this
    rw [va_up_self, hM.2.2.2.1]
    rfl
  · have := ce 0 (by omega) h0
    subst this
    rw [va_up_self, hM.2.2.1]
    rfl
theorem mv_runsL {N c : Nat} (hN : N ≤ 60) (hc : c < 4) : ∀ (n k : Nat) (q : PS × Int32 × Int32) (m : Int32) (v : OV) (fst : Int32), k + n = N → (fst = -4 ∨ ∃ j, j < 100 ∧ fst = nI j) → MM v nb nr q.1 q.2.1 m q.2.2 → PI nb nr q.1 → ∃ v2, KN v v2 ∧ ∀ C : ZC, Zok ad D ia C (d + 5) cX9_runs 5 RX9 (some .int) → Z l ad D ia C (some (.int (ruX c (days nr n q).2.1 (m + ((days nr n q).1.2 1 - q.1.2 1)) (days nr n q).2.2 (if fst = -4 then fD nr ((1 <<< (nI nr &&& 31)) - 1) n k q else fst)))) (va_up s 20 v2) 35 [(0, .ref (ad 20 0)), (1, .int (nI N)), (2, .int (nI c)), (3, .int fst), (4, .int (nI k))] [] (va_up s 20 v) := by
  intro n
  induction n with
  | zero =>
    intro k q m v fst hk hf hM hp
    have hM2 : MM (va_up s 20 v 20) nb nr q.1 q.2.1 m q.2.2 := by rw [va_up_self]; exact hM
    have hw := mv_doneNow (l := l) (ad := ad) (D := D) (ia := ia) (d := d + 3) hM2 hp
    have hnl : ¬ nI N < nI k := nI_nlt (by omega) (by omega)
    have hle : nI N ≤ nI k := nI_le (by omega) (by omega)
    have e0 : days nr 0 q = q := rfl
    have hkN : k = N := by omega
    subst hkN
    rw [e0, mi0]
    refine ⟨v, KN.rf v, fun C hC => bX9_runs_35 hC ⟨fun h => absurd h hnl, fun _ => ⟨fun h => ⟨fun _ => ?_, fun h2 => absurd hle h2⟩, fun h => ⟨_, _, hw, fun h3 => ⟨fun _ => ?_, fun h2 => absurd hle h2⟩, fun h3 => ⟨fun _ => ?_, fun h2 => absurd hle h2⟩⟩⟩⟩⟩
    · rw [if_neg h, nI_1]
      exact mv_runsE hN hc hM hC
    · rw [va_up_self, hM.1.2] at h3
      unfold fD
      rw [if_pos h, if_neg h3, nI_1]
      subst h
      exact mv_runsE hN hc hM hC
    · rw [va_up_self, hM.1.2] at h3
      unfold fD
      rw [if_pos h, if_pos h3, nI_1]
      exact mv_runsE hN hc hM hC
  | succ n ih =>
    intro k q m v fst hk hf hM hp
    have hM2 : MM (va_up s 20 v 20) nb nr q.1 q.2.1 m q.2.2 := by rw [va_up_self]; exact hM
    have hw := mv_doneNow (l := l) (ad := ad) (D := D) (ia := ia) (d := d + 3) hM2 hp
    have hnl : ¬ nI N < nI k := nI_nlt (by omega) (by omega)
    have hle : ¬ nI N ≤ nI k := nI_ge (by omega) (by omega)
    obtain ⟨v1, hev, hM1, kn1⟩ := mv_dayGoes (l := l) (ad := ad) (D := D) (ia := ia) (d := d) hM2 hp
    rw [up_up] at hev
    rw [va_up_self] at kn1
    have e0 : days nr (n + 1) q = days nr n (day nr q) := rfl
    rw [e0]
    by_cases cf : fst = -4
    · subst cf
      by_cases c3 : doneB nr 0 q.1 0 = (1 <<< (nI nr &&& 31)) - 1
      · obtain ⟨v2, kn2, hz⟩ := ih (k + 1) (day nr q) _ v1 (nI k) (by omega) (Or.inr ⟨k, by omega, rfl⟩) hM1 (PI_day hp)
        refine ⟨v2, kn1.tr kn2, fun C hC => bX9_runs_35 hC ⟨fun h => absurd h hnl, fun _ => ⟨fun h => absurd rfl h, fun _ => ⟨_, _, hw, fun h3 => ?_, fun h3 => ⟨fun h2 => absurd h2 hle, fun _ => ⟨_, hev, ?_⟩⟩⟩⟩⟩⟩
        · rw [va_up_self, hM.1.2] at h3
          exact absurd c3 h3
        · have hz := hz C hC
          rw [if_neg (nI_n4 (by omega)), mi2] at hz
          unfold fD
          rw [if_pos rfl, if_pos c3, nI_1]
          exact hz
      · obtain ⟨v2, kn2, hz⟩ := ih (k + 1) (day nr q) _ v1 (-4) (by omega) (Or.inl rfl) hM1 (PI_day hp)
        refine ⟨v2, kn1.tr kn2, fun C hC => bX9_runs_35 hC ⟨fun h => absurd h hnl, fun _ => ⟨fun h => absurd rfl h, fun _ => ⟨_, _, hw, fun h3 => ⟨fun h2 => absurd h2 hle, fun _ => ⟨_, hev, ?_⟩⟩, fun h3 => ?_⟩⟩⟩⟩
        · have hz := hz C hC
          rw [if_pos rfl, mi2] at hz
          have e1 : fD nr ((1 <<< (nI nr &&& 31)) - 1) (n + 1) k q = fD nr ((1 <<< (nI nr &&& 31)) - 1) n (k + 1) (day nr q) := by
            show (if doneB nr 0 q.1 0 = _ then _ else _) = _
            rw [if_neg c3]
          rw [if_pos rfl, e1, nI_1]
          exact hz
        · rw [va_up_self, hM.1.2] at h3
          exact absurd h3 c3
    · obtain ⟨v2, kn2, hz⟩ := ih (k + 1) (day nr q) _ v1 fst (by omega) hf hM1 (PI_day hp)
      refine ⟨v2, kn1.tr kn2, fun C hC => bX9_runs_35 hC ⟨fun h => absurd h hnl, fun _ => ⟨fun h => ⟨fun h2 => absurd h2 hle, fun _ => ⟨_, hev, ?_⟩⟩, fun h => absurd h cf⟩⟩⟩
      have hz := hz C hC
      rw [if_neg cf, mi2] at hz
      rw [if_neg cf, nI_1]
      exact hz
theorem op_runs (hR : RR s) (x y : Int32) : Op l ad D ia s mX8_runs mX9_runs [.int x, .int y] := by
  obtain ⟨nb, nr, p, tl, tb, flt, sn, sa, K, H, tn, hG, hC, hM⟩ := hR
  have hbad : RR s := ⟨nb, nr, p, tl, tb, flt, sn, sa, K, H, tn, hG, hC, hM⟩
  have hp := hG.1.1
  have h8 := hp.1.1
  have h4 := hp.1.2
  obtain ⟨f, w, hH⟩ := hC.1
  have o1 := ev_out0 (l := l) (ad := ad) (D := D) (ia := ia) (d := 8) (s := s) (n := 60) x (y := 60) rfl (by decide)
  have o2 := ev_out0 (l := l) (ad := ad) (D := D) (ia := ia) (d := 8) (s := s) (n := 3) y (y := 3) rfl (by decide)
  have i1 := fun s2 => mv_isFar (l := l) (ad := ad) (D := D) (ia := ia) (d := 7) (s := s2) x
  have i2 := fun s2 => mv_in3 (l := l) (ad := ad) (D := D) (ia := ia) (d := 8) (s := s2) y
  by_cases cx : inN x 61 = true
  · rw [cx] at o1 i1
    by_cases cy : inN y 4 = true
    · rw [cy] at o2 i2
      obtain ⟨N, hN, rfl⟩ := inN_nI cx
      obtain ⟨c, hc, rfl⟩ := inN_nI cy
      obtain ⟨v1, hb1, hT⟩ := ev_beginTrial (l := l) (ad := ad) (D := D) (ia := ia) (d := 6) (s := s) hC.1 h8 h4
      have hT1 : HR (va_up s 2 v1 2) nb nr p 0 0 := by rw [va_up_self]; exact hT
      obtain ⟨X, hX⟩ : ∃ X : Int32, X = ruX c (days nr N (p, 0, 0)).2.1 ((days nr N (p, 0, 0)).1.2 1 - p.2 1) (days nr N (p, 0, 0)).2.2 (fD nr ((1 <<< (nI nr &&& 31)) - 1) N 0 (p, 0, 0)) := ⟨_, rfl⟩
      have hcls : ∃ v2, Ev l ad D ia 9 mX8_runs [.ref (ad 0 0), .int (nI N), .int (nI c)] s (some (.int X)) (va_up s 2 v2) := by
        by_cases c3 : c = 3
        · subst c3
          obtain ⟨v2, hz⟩ := ev_tillAll (l := l) (ad := ad) (D := D) (ia := ia) (d := 3) (s := s) (N := N) (by omega) (mask := (1 <<< (nI nr &&& 31)) - 1) N 0 (p, 0, 0) v1 (by omega) hT hp
          have hta : Ev l ad D ia 8 mX8_daysTillAllDone [.ref (ad 0 0), .int (nI N)] (va_up s 2 v1) (some (.int X)) (va_up s 2 v2) := by
            refine eX8_daysTillAllDone (fun C hZ => ?_)
            rw [hT1.n4, hX]
            exact hz C hZ
          exact ⟨v2, eX8_runs ⟨_, _, o1, fun h => absurd rfl h, fun _ => ⟨_, _, o2, fun _ => ⟨_, hb1, fun h => absurd rfl h, fun _ => ⟨_, _, hta, rfl, rfl⟩⟩, fun h => absurd rfl h⟩⟩⟩
        · obtain ⟨v2, hb2, hT2⟩ := ev_passDays (l := l) (ad := ad) (D := D) (ia := ia) (d := 3) (o := 2) (N := N) rfl (by omega) hT1 hp
          rw [up_up] at hb2
          have ce : ∀ k, k < 4 → nI c = nI k → c = k := fun k hk h => (nI_eq (by omega) (by omega)).mp h
          have htm : Ev l ad D ia 8 mX8_trialMinutes [.ref (ad 0 0)] (va_up s 2 v2) (some (.int ((days nr N (p, 0, 0)).1.2 1 - p.2 1))) (va_up s 2 v2) := by
            refine eX8_trialMinutes ⟨?_, rfl⟩
            rw [va_up_self, va_up_ne _ _ (by decide), hT2.n10, hH.n10]
          refine ⟨v2, eX8_runs ⟨_, _, o1, fun h => absurd rfl h, fun _ => ⟨_, _, o2, fun _ => ⟨_, hb1, fun _ => ⟨_, hb2, fun h => ⟨?_, rfl⟩, fun h => ⟨_, _, htm, ?_, rfl⟩, fun h => ⟨?_, rfl⟩⟩, fun h => absurd (ce 3 (by omega) h) c3⟩, fun h => absurd rfl h⟩⟩⟩
          · have := ce 0 (by omega) h
            subst this
            rw [va_up_self, hT2.n12, hX]
            rfl
          · have := ce 1 (by omega) h
            subst this
            rw [hX]
            rfl
          · have a0 : ¬ c = 0 := fun e => h.1 (by rw [e]; rfl)
            have a1 : ¬ c = 1 := fun e => h.2 (by rw [e]; rfl)
            have : c = 2 := by omega
            subst this
            rw [va_up_self, hT2.n13, hX]
            rfl
      obtain ⟨v2, hcls⟩ := hcls
      have h20 : va_up s 2 v2 20 = s 20 := va_up_ne _ _ (by decide)
      obtain ⟨v0, e0, hM0, hk0⟩ := mv_starts (l := l) (ad := ad) (D := D) (ia := ia) (d := 8) (s := va_up s 2 v2) (nb := nb) (nr := nr) (p := p) (by rw [h20]; exact hM.1) (by rw [h20]; exact hM.2.2.2.1) h8 h4
      rw [h20] at hk0
      have hM0b : MM (va_up (va_up s 2 v2) 20 v0 20) nb nr p (v0.1 18) (v0.1 19) (v0.1 20) := by rw [va_up_self]; exact hM0
      obtain ⟨v3, e3, hM3, hk3⟩ := mv_startsCounting (l := l) (ad := ad) (D := D) (ia := ia) (d := 8) hM0b
      rw [up_up] at e3
      rw [va_up_self] at hk3
      obtain ⟨v4, hk4, hz⟩ := mv_runsL (l := l) (ad := ad) (D := D) (ia := ia) (d := 4) (s := va_up s 2 v2) (N := N) (c := c) (by omega) hc N 0 (p, 0, 0) 0 v3 (-4) (by omega) (Or.inl rfl) hM3 hp
      rw [if_pos rfl, Int32.zero_add] at hz
      refine ⟨.int X, _, _, hcls, eX9_runs (fun C hZ => ⟨_, _, i1 _, fun h => absurd h (by decide), fun _ => ⟨_, _, i2 _, fun _ => ⟨_, e0, _, e3, ?_⟩, fun h => absurd h (by decide)⟩⟩), RR_sc hG hC hM (KC.up (o := 2) (v := v2) (by decide)) ((hk0.M.tr hk3.M).tr hk4.M)⟩
      rw [hX]
      exact hz C hZ
    · rw [bool_f cy] at o2 i2
      exact ⟨.int (-1), _, _, eX8_runs ⟨_, _, o1, fun h => absurd rfl h, fun _ => ⟨_, _, o2, fun h => absurd h (by decide), fun _ => ⟨rfl, rfl⟩⟩⟩, eX9_runs (fun C hZ => ⟨_, _, i1 _, fun h => absurd h (by decide), fun _ => ⟨_, _, i2 _, fun h => absurd rfl h, fun _ => ⟨rfl, rfl⟩⟩⟩), hbad⟩
  · rw [bool_f cx] at o1 i1
    exact ⟨.int (-1), _, _, eX8_runs ⟨_, _, o1, fun _ => ⟨rfl, rfl⟩, fun h => absurd h (by decide)⟩, eX9_runs (fun C hZ => ⟨_, _, i1 _, fun _ => ⟨rfl, rfl⟩, fun h => absurd rfl h⟩), hbad⟩
end OL
