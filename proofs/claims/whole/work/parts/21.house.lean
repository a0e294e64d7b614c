section HO
variable {l : Launch} {ad : ZA} {D : va_G} {ia : Nat → ClassId} {d o nb nr r b : Nat} {s : ZS} {p : PS} {f w : Int32}
theorem ev_hasBook (ho : zcls o = 0) (x : Int32) : Ev l ad D ia d mX0_hasBook [.ref (ad o 0), .int x] s (some (.int (if ¬ x < 0 ∧ ¬ (s o).1 0 ≤ x then 1 else 0))) s := by
  refine eX0_hasBook ho ⟨fun h => ⟨?_, rfl⟩, fun h => ⟨fun h2 => ⟨?_, rfl⟩, fun h2 => ⟨?_, rfl⟩⟩⟩
  · rw [if_neg (fun q => q.1 h)]
  · rw [if_neg (fun q => q.2 h2)]
  · rw [if_pos ⟨h, h2⟩]
theorem ev_hasReader (ho : zcls o = 0) (x : Int32) : Ev l ad D ia d mX0_hasReader [.ref (ad o 0), .int x] s (some (.int (if ¬ x < 0 ∧ ¬ (s o).1 4 ≤ x then 1 else 0))) s := by
  refine eX0_hasReader ho ⟨fun h => ⟨?_, rfl⟩, fun h => ⟨fun h2 => ⟨?_, rfl⟩, fun h2 => ⟨?_, rfl⟩⟩⟩
  · rw [if_neg (fun q => q.1 h)]
  · rw [if_neg (fun q => q.2 h2)]
  · rw [if_pos ⟨h, h2⟩]
theorem hasB_iff {nb : Nat} {x : Int32} (h8 : nb ≤ 8) (hx : okB nb x) : (¬ x < 0 ∧ ¬ nI nb ≤ x) ↔ ¬ x = -4 := by
  rcases hx with rfl | ⟨b, hb, rfl⟩
  · constructor
    · intro h
      exact absurd (by decide) h.1
    · intro h
      exact absurd rfl h
  · constructor
    · intro _
      exact nI_n4 (by omega)
    · intro _
      exact ⟨nI_pos (by omega), nI_ge hb (by omega)⟩
theorem ev_isDone (ho : zcls o = 0) (hH : HR (s o) nb nr p f w) (hp : PI nb nr p) (hr : r < nr) : Ev l ad D ia (d + 1) mX0_isDone [.ref (ad o 0), .int (nI r)] s (some (.int (if p.1 4 r = -4 then 1 else 0))) s := by
  have hr4 : r < 4 := Nat.lt_of_lt_of_le hr hp.1.2
  refine eX0_isDone ho ⟨vp_in_nI hr4 (by omega), _, _, ev_hasBook ho _, ?_⟩
  rw [nI_clamp (by omega), hH.n0, hH.g6 hr]
  have hi := hasB_iff hp.1.1 (hp.2.2.1 r hr)
  by_cases c : p.1 4 r = -4
  · rw [if_neg (fun q => (hi.mp q) c), if_pos c]
    exact ⟨fun h => absurd rfl h, fun _ => ⟨rfl, rfl⟩⟩
  · rw [if_pos (hi.mpr c), if_neg c]
    exact ⟨fun _ => ⟨rfl, rfl⟩, fun h => absurd h (by decide)⟩
theorem ev_hasHad (ho : zcls o = 0) (hH : HR (s o) nb nr p f w) (hp : PI nb nr p) (hr : r < nr) : Ev l ad D ia d mX0_hasHad [.ref (ad o 0), .int (nI r), .int (nI b)] s (some (.int (if hadq p r b = 0 then 0 else 1))) s := by
  have hr4 : r < 4 := Nat.lt_of_lt_of_le hr hp.1.2
  refine eX0_hasHad ho ⟨vp_in_nI hr4 (by omega), ?_⟩
  rw [nI_clamp (by omega), hH.g8 hr]
  refine ⟨fun h => ⟨?_, rfl⟩, fun h => ⟨?_, rfl⟩⟩
  · rw [if_pos (show hadq p r b = 0 from h)]
  · rw [if_neg (show ¬ hadq p r b = 0 from h)]
theorem ev_minutesFor (ho : zcls o = 0) (hH : HR (s o) nb nr p f w) (hp : PI nb nr p) (hr : r < nr) (hb : b < nb) : Ev l ad D ia (d + 1) mX0_minutesFor [.ref (ad o 0), .int (nI r), .int (nI b)] s (some (.int (mns p r b))) s := by
  have hr4 : r < 4 := Nat.lt_of_lt_of_le hr hp.1.2
  have hb8 : b < 8 := Nat.lt_of_lt_of_le hb hp.1.1
  refine eX0_minutesFor ho ⟨vp_in_nI hb8 (by omega), vp_in_nI hb8 (by omega), vp_in_nI hr4 (by omega), ?_⟩
  rw [nI_clamp (show r < 2 ^ 31 by omega), nI_clamp (show b < 2 ^ 31 by omega), hH.g5 hr, hH.g1 hb, hH.g2 hb, hH.n9]
  unfold mns clm
  refine ⟨fun h => ⟨?_, rfl⟩, fun h => ⟨?_, rfl⟩, fun h => ⟨?_, rfl⟩, fun h => ⟨?_, rfl⟩⟩
  · rw [if_pos h]
  · rw [if_neg (by rw [h]; decide), if_pos h]
  · rw [if_neg (by rw [h]; decide), if_neg (by rw [h]; decide), if_pos h]
  · rw [if_neg h.1, if_neg h.2.1, if_neg h.2.2]
theorem ev_dizzyBy (ho : zcls o = 0) (hH : HR (s o) nb nr p f w) (hp : PI nb nr p) (hr : r < nr) (hb : b < nb) : Ev l ad D ia (d + 1) mX0_dizzyBy [.ref (ad o 0), .int (nI r), .int (nI b)] s (some (.int (dzz (p.1 3 r) (p.1 1 b)))) s := by
  have hr4 : r < 4 := Nat.lt_of_lt_of_le hr hp.1.2
  have hb8 : b < 8 := Nat.lt_of_lt_of_le hb hp.1.1
  refine eX0_dizzyBy ho ⟨vp_in_nI hb8 (by omega), vp_in_nI hr4 (by omega), ?_⟩
  rw [nI_clamp (show r < 2 ^ 31 by omega), nI_clamp (show b < 2 ^ 31 by omega), hH.g5 hr, hH.g2 hb]
  unfold dzz
  refine ⟨fun h => ⟨?_, rfl⟩, fun h => ⟨?_, rfl⟩, fun h => ⟨?_, rfl⟩, fun h => ⟨?_, rfl⟩⟩
  · rw [if_pos h]
  · rw [if_neg (by rw [h]; decide), if_pos h]
  · rw [if_neg (by rw [h]; decide), if_neg (by rw [h]; decide), if_pos h]
  · rw [if_neg h.1, if_neg h.2.1, if_neg h.2.2]
theorem ev_bring (ho : zcls o = 0) (hH : HR (s o) nb nr p f w) (hp : PI nb nr p) (hr : r < nr) (hb : b < nb) : ∃ v, Ev l ad D ia (d + 2) mX0_bring [.ref (ad o 0), .int (nI r), .int (nI b)] s (some (.int (mns p r b))) (va_up s o v) ∧ HR v nb nr (fet p r b) (f + 1) w := by
  have hr4 : r < 4 := Nat.lt_of_lt_of_le hr hp.1.2
  have hb8 : b < 8 := Nat.lt_of_lt_of_le hb hp.1.1
  have k1 := hH.s10 (p.2 1 + mns p r b)
  have k2 := k1.s9 (p.1 0 b)
  have k3 := k2.w8 r (p.1 6 r ||| (1 <<< (nI b &&& 31)))
  have k4 := k3.fe (f + 1)
  refine ⟨_, ?_, k4⟩
  refine eX0_bring ho ⟨_, _, ev_minutesFor ho hH hp hr hb, ?_⟩
  intro s1 e1
  rw [hH.n10] at e1
  have e1 : s1 = va_up s o (setI (s o) 10 (p.2 1 + mns p r b)) := e1
  subst e1
  refine ⟨vp_in_nI hb8 (by omega), ?_⟩
  intro s2 e2
  rw [va_up_self, nI_clamp (show b < 2 ^ 31 by omega), k1.g1 hb, stI_up] at e2
  have e2 : s2 = va_up s o (setI (setI (s o) 10 (p.2 1 + mns p r b)) 9 (p.1 0 b)) := e2
  subst e2
  refine ⟨vp_in_nI hr4 (by omega), vp_in_nI hr4 (by omega), ?_⟩
  intro s3 e3
  rw [va_up_self, nI_clamp (show r < 2 ^ 31 by omega), k2.g8 hr, stA_up] at e3
  have e3 : s3 = va_up s o (setA (setI (setI (s o) 10 (p.2 1 + mns p r b)) 9 (p.1 0 b)) 8 (upd ((setI (setI (s o) 10 (p.2 1 + mns p r b)) 9 (p.1 0 b)).2.2 8) r (p.1 6 r ||| (1 <<< (nI b &&& 31))))) := e3
  subst e3
  intro s4 e4
  rw [va_up_self, k3.n12, stI_up] at e4
  exact ⟨rfl, e4.symm⟩
/-- the turns of a reader's day -/
theorem ev_turns (ho : zcls o = 0) (hr : r < nr) : ∀ (n t : Nat) (z : Int32) (p : PS) (f w : Int32) (v : OV), t + n = 9 → HR v nb nr p f w → PI nb nr p →
    ∃ v2, HR v2 nb nr (gd n p r z f w).1 (gd n p r z f w).2.1 (gd n p r z f w).2.2.1 ∧ ∀ C : ZC, Zok ad D ia C (d + 3) cX0_spendDay 6 RX0 (some .int) → Z l ad D ia C (some (.int (gd n p r z f w).2.2.2)) (va_up s o v2) 4 [(0, .ref (ad o 0)), (1, .int (nI r)), (2, .int z), (3, .int (nI t))] [] (va_up s o v) := by
  intro n
  induction n with
  | zero =>
    intro t z p f w v ht hH hp
    refine ⟨v, hH, fun C hC => bX0_spendDay_4 ho hC ⟨fun _ => ⟨rfl, rfl⟩, fun h => absurd (nI_lt (a := 8) (b := t) (by omega) (by omega)) h⟩⟩
  | succ n ih =>
    intro t z p f w v ht hH hp
    have hr4 : r < 4 := Nat.lt_of_lt_of_le hr hp.1.2
    have hH2 : HR (va_up s o v o) nb nr p f w := by rw [va_up_self]; exact hH
    have hn8 : ¬ (8 : Int32) < nI t := nI_nlt (a := 8) (b := t) (by omega) (by omega)
    have hdn := ev_isDone (l := l) (ad := ad) (D := D) (ia := ia) (d := d + 1) ho hH2 hp hr
    unfold gd
    by_cases c1 : p.1 4 r = -4
    · rw [if_pos c1] at hdn
      rw [if_pos c1]
      exact ⟨v, hH, fun C hC => bX0_spendDay_4 ho hC ⟨fun h => absurd h hn8, fun _ => ⟨_, _, hdn, fun _ => ⟨rfl, rfl⟩, fun h => absurd h (by decide)⟩⟩⟩
    · rw [if_neg c1] at hdn
      rw [if_neg c1]
      obtain ⟨hb, hbe⟩ := okB_bk (hp.2.2.1 r hr) c1 hp.1.1
      generalize hbg : bk (p.1 4 r) = b at *
      have hb8 : b < 8 := Nat.lt_of_lt_of_le hb hp.1.1
      have hwr : (va_up s o v o).2.2 6 (nI r).toNatClampNeg = nI b := by rw [va_up_self, nI_clamp (by omega), hH.g6 hr, hbe]
      have hdz := ev_dizzyBy (l := l) (ad := ad) (D := D) (ia := ia) (d := d + 1) ho hH2 hp hr hb
      have hhd := ev_hasHad (l := l) (ad := ad) (D := D) (ia := ia) (d := d + 2) (b := b) ho hH2 hp hr
      have hin := vp_in_nI hr4 (show 4 < 2 ^ 31 by omega)
      by_cases c2 : hadq p r b = 0
      · rw [if_pos c2] at hhd
        rw [if_pos c2]
        have hbr : (va_up s o v o).2.2 7 (nI r).toNatClampNeg = p.1 5 r := by rw [va_up_self, nI_clamp (by omega), hH.g7 hr]
        by_cases c3 : z + dzz (p.1 3 r) (p.1 1 b) ≤ p.1 5 r
        · rw [if_pos c3]
          obtain ⟨v1, hev, hH1⟩ := ev_bring (l := l) (ad := ad) (D := D) (ia := ia) (d := d) ho hH2 hp hr hb
          rw [up_up] at hev
          have k2 := hH1.w6 r (p.1 2 b)
          obtain ⟨v2, hv2, hz⟩ := ih (t + 1) (z + dzz (p.1 3 r) (p.1 1 b)) _ (f + 1) w _ (by omega) k2 (PI_want (PI_fet hp) (hp.2.1 b hb))
          refine ⟨v2, hv2, fun C hC => bX0_spendDay_4 ho hC ⟨fun h => absurd h hn8, fun _ => ⟨_, _, hdn, fun h => absurd rfl h, fun _ => ⟨hin, _, _, (by rw [hwr]; exact hdz), _, _, (by rw [hwr]; exact hhd), fun _ => ⟨hin, fun _ => ⟨_, _, (by rw [hwr]; exact hev), (by rw [hwr]; exact vp_in_nI hb8 (by omega)), hin, ?_⟩, fun h => absurd (by rw [hbr]; exact c3) h⟩, fun h => absurd rfl h⟩⟩⟩⟩
          intro s1 e1
          rw [hwr, va_up_self, nI_clamp (show r < 2 ^ 31 by omega), nI_clamp (show b < 2 ^ 31 by omega), hH1.g3 hb, fet_row (by decide), stA_up] at e1
          subst e1
          rw [nI_1]
          exact hz C hC
        · rw [if_neg c3]
          refine ⟨_, hH.ve (w + 1), fun C hC => bX0_spendDay_4 ho hC ⟨fun h => absurd h hn8, fun _ => ⟨_, _, hdn, fun h => absurd rfl h, fun _ => ⟨hin, _, _, (by rw [hwr]; exact hdz), _, _, (by rw [hwr]; exact hhd), fun _ => ⟨hin, fun h => absurd (by rw [hbr] at h; exact h) c3, fun _ => ?_⟩, fun h => absurd rfl h⟩⟩⟩⟩
          intro s1 e1
          rw [va_up_self, hH.n13, stI_up] at e1
          exact ⟨by rw [hwr, hbe], e1.symm⟩
      · rw [if_neg c2] at hhd
        rw [if_neg c2]
        have k2 := hH.w6 r (-4)
        have hp2 : PI nb nr (pr p 4 r (-4)) := PI_want hp okB_n4
        have hd2 := ev_isDone (l := l) (ad := ad) (D := D) (ia := ia) (d := d + 1) (s := va_up s o (setA v 6 (upd (v.2.2 6) r (-4)))) ho (by rw [va_up_self]; exact k2) hp2 hr
        rw [if_pos pr_self] at hd2
        refine ⟨_, k2, fun C hC => bX0_spendDay_4 ho hC ⟨fun h => absurd h hn8, fun _ => ⟨_, _, hdn, fun h => absurd rfl h, fun _ => ⟨hin, _, _, (by rw [hwr]; exact hdz), _, _, (by rw [hwr]; exact hhd), fun h => absurd h (by decide), fun _ => ⟨hin, ?_⟩⟩⟩⟩⟩
        intro s1 e1
        rw [nI_clamp (show r < 2 ^ 31 by omega), stA_up] at e1
        subst e1
        exact bX0_spendDay_4 ho hC ⟨fun _ => ⟨rfl, rfl⟩, fun _ => ⟨_, _, hd2, fun _ => ⟨rfl, rfl⟩, fun h => absurd h (by decide)⟩⟩
theorem ev_spendDay (ho : zcls o = 0) (hH : HR (s o) nb nr p f w) (hp : PI nb nr p) (hr : r < nr) : ∃ v, Ev l ad D ia (d + 3) mX0_spendDay [.ref (ad o 0), .int (nI r)] s (some (.int (gd 9 p r 0 f w).2.2.2)) (va_up s o v) ∧ HR v nb nr (gd 9 p r 0 f w).1 (gd 9 p r 0 f w).2.1 (gd 9 p r 0 f w).2.2.1 := by
  obtain ⟨v2, hv2, hz⟩ := ev_turns (l := l) (ad := ad) (D := D) (ia := ia) (d := d) (s := s) ho hr 9 0 0 p f w (s o) rfl hH hp
  rw [up_id] at hz
  exact ⟨v2, eX0_spendDay ho hz, hv2⟩
theorem ev_dayL (ho : zcls o = 0) : ∀ (k r : Nat) (p : PS) (f w : Int32) (v : OV), r + k = nr → HR v nb nr p f w → PI nb nr p →
    ∃ v2, HR v2 nb nr (pz (dyR k r p f w).1 2 ((dyR k r p f w).1.2 2 + 1)) (dyR k r p f w).2.1 (dyR k r p f w).2.2 ∧ ∀ C : ZC, Zok ad D ia C (d + 4) cX0_passDay 2 RX0 none → Z l ad D ia C none (va_up s o v2) 2 [(0, .ref (ad o 0)), (1, .int (nI r))] [] (va_up s o v) := by
  intro k
  induction k with
  | zero =>
    intro r p f w v hk hH hp
    have hr4 : nr ≤ 4 := hp.1.2
    refine ⟨_, hH.s11 (p.2 2 + 1), fun C hC => bX0_passDay_2 ho hC ⟨fun _ => ?_, fun h => ?_⟩⟩
    · intro s1 e1
      rw [va_up_self, hH.n11, stI_up] at e1
      exact ⟨rfl, e1.symm⟩
    · rw [va_up_self, hH.n4] at h
      exact absurd (nI_le (a := nr) (b := r) (by omega) (by omega)) h
  | succ k ih =>
    intro r p f w v hk hH hp
    have hr4 : nr ≤ 4 := hp.1.2
    have hH2 : HR (va_up s o v o) nb nr p f w := by rw [va_up_self]; exact hH
    obtain ⟨v1, hev, hH1⟩ := ev_spendDay (l := l) (ad := ad) (D := D) (ia := ia) (d := d) (r := r) ho hH2 hp (by omega)
    rw [up_up] at hev
    obtain ⟨v2, hv2, hz⟩ := ih (r + 1) _ _ _ v1 (by omega) hH1 (PI_gd 9 hp (by omega))
    refine ⟨v2, hv2, fun C hC => bX0_passDay_2 ho hC ⟨fun h => ?_, fun _ => ⟨_, _, hev, ?_⟩⟩⟩
    · rw [va_up_self, hH.n4] at h
      exact absurd h (nI_ge (by omega) (by omega))
    · rw [nI_1]
      exact hz C hC
theorem ev_passDay (ho : zcls o = 0) (hH : HR (s o) nb nr p f w) (hp : PI nb nr p) : ∃ v, Ev l ad D ia (d + 4) mX0_passDay [.ref (ad o 0)] s none (va_up s o v) ∧ HR v nb nr (day nr (p, f, w)).1 (day nr (p, f, w)).2.1 (day nr (p, f, w)).2.2 := by
  obtain ⟨v2, hv2, hz⟩ := ev_dayL (l := l) (ad := ad) (D := D) (ia := ia) (d := d) (s := s) ho nr 0 p f w (s o) (by omega) hH hp
  rw [up_id] at hz
  exact ⟨v2, eX0_passDay ho hz, hv2⟩
theorem ev_daysL (ho : zcls o = 0) {N : Nat} (hN : N < 2 ^ 31) : ∀ (k i : Nat) (q : PS × Int32 × Int32) (v : OV), i + k = N → HR v nb nr q.1 q.2.1 q.2.2 → PI nb nr q.1 →
    ∃ v2, HR v2 nb nr (days nr k q).1 (days nr k q).2.1 (days nr k q).2.2 ∧ ∀ C : ZC, Zok ad D ia C (d + 5) cX0_passDays 3 RX0 none → Z l ad D ia C none (va_up s o v2) 2 [(0, .ref (ad o 0)), (1, .int (nI N)), (2, .int (nI i))] [] (va_up s o v) := by
  intro k
  induction k with
  | zero =>
    intro i q v hk hH hp
    exact ⟨v, hH, fun C hC => bX0_passDays_2 ho hC ⟨fun _ => ⟨rfl, rfl⟩, fun h => absurd (nI_le (a := N) (b := i) (by omega) (by omega)) h⟩⟩
  | succ k ih =>
    intro i q v hk hH hp
    have hH2 : HR (va_up s o v o) nb nr q.1 q.2.1 q.2.2 := by rw [va_up_self]; exact hH
    obtain ⟨v1, hev, hH1⟩ := ev_passDay (l := l) (ad := ad) (D := D) (ia := ia) (d := d) ho hH2 hp
    rw [up_up] at hev
    obtain ⟨v2, hv2, hz⟩ := ih (i + 1) (day nr q) v1 (by omega) hH1 (PI_day hp)
    refine ⟨v2, hv2, fun C hC => bX0_passDays_2 ho hC ⟨fun h => absurd h (nI_ge (by omega) (by omega)), fun _ => ⟨_, hev, ?_⟩⟩⟩
    rw [nI_1]
    exact hz C hC
theorem ev_passDays (ho : zcls o = 0) {N : Nat} (hN : N < 2 ^ 31) (hH : HR (s o) nb nr p f w) (hp : PI nb nr p) : ∃ v, Ev l ad D ia (d + 5) mX0_passDays [.ref (ad o 0), .int (nI N)] s none (va_up s o v) ∧ HR v nb nr (days nr N (p, f, w)).1 (days nr N (p, f, w)).2.1 (days nr N (p, f, w)).2.2 := by
  obtain ⟨v2, hv2, hz⟩ := ev_daysL (l := l) (ad := ad) (D := D) (ia := ia) (d := d) (s := s) ho hN N 0 (p, f, w) (s o) (by omega) hH hp
  rw [up_id] at hz
  exact ⟨v2, eX0_passDays ho hz, hv2⟩
end HO
