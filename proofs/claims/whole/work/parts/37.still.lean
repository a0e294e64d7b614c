theorem itp_gd {p : PS} {r n : Nat} {f w : Int32} : itp n (gd 9 p r 0 f w).1 r = itp (n + 1) p r := by
  have g := gd_go 9 p r 0 f w
  unfold itp
  rw [show (gd 9 p r 0 f w).1.1 1 = p.1 1 from funext fun i => gd_fr 9 p r 0 f w 1 i (Or.inl (by decide)), show (gd 9 p r 0 f w).1.1 2 = p.1 2 from funext fun i => gd_fr 9 p r 0 f w 2 i (Or.inl (by decide)), gd_fr 9 p r 0 f w 3 r (Or.inl (by decide)), gd_fr 9 p r 0 f w 5 r (Or.inl (by decide)), g.1, g.2.1]
  rfl
def fxp (p : PS) (r : Nat) : Prop := fxd (p.1 1) (p.1 2) (p.1 3 r) (p.1 5 r) (p.1 4 r, p.1 6 r)
theorem fxp_gd {p : PS} {r : Nat} {f w : Int32} (hc : (gr p r).2.2.1 = 0) : fxp (gd 9 p r 0 f w).1 r := by
  have g := gd_go 9 p r 0 f w
  unfold fxp
  rw [show (gd 9 p r 0 f w).1.1 1 = p.1 1 from funext fun i => gd_fr 9 p r 0 f w 1 i (Or.inl (by decide)), show (gd 9 p r 0 f w).1.1 2 = p.1 2 from funext fun i => gd_fr 9 p r 0 f w 2 i (Or.inl (by decide)), gd_fr 9 p r 0 f w 3 r (Or.inl (by decide)), gd_fr 9 p r 0 f w 5 r (Or.inl (by decide)), g.1, g.2.1]
  exact go_fxd (q := (p.1 4 r, p.1 6 r)) hc
theorem m1_lt {k : Nat} (h : k < 2 ^ 31) : ¬ nI k ≤ -1 := by
  rw [Int32.le_iff_toInt_le, nI_toInt h]
  have : (-1 : Int32).toInt = -1 := by decide
  omega
section ST
variable {l : Launch} {ad : ZA} {D : va_G} {ia : Nat → ClassId} {d nb nr r b o o1 : Nat} {s : ZS} {p : PS} {f m w : Int32}
theorem ev_ofL (ho : zcls o = 0) (hr : r < nr) {N : Nat} (hN : N ≤ 60) : ∀ (n i : Nat) (p : PS) (kf : Nat) (w : Int32) (v : OV) (bef : Int32), i + n = N → HR v nb nr p (nI kf) w → PI nb nr p → kf ≤ 9 * i → (bef = -1 ∨ ∃ kb, kb ≤ kf ∧ bef = nI kb) → (bef = nI kf → fxp p r) →
    ∃ v2 p2 f2 w2, (HR v2 nb nr p2 f2 w2 ∧ PI nb nr p2 ∧ p2.1 4 r = (itp n p r).1 ∧ p2.1 6 r = (itp n p r).2) ∧ ∀ C : ZC, Zok ad D ia C (d + 4) cX0_passDaysOf 5 RX0 none → Z l ad D ia C none (va_up s o v2) 5 [(0, .ref (ad o 0)), (1, .int (nI r)), (2, .int (nI N)), (3, .int bef), (4, .int (nI i))] [] (va_up s o v) := by
  intro n
  induction n with
  | zero =>
    intro i p kf w v bef hi hH hp hk hb hx
    exact ⟨v, p, _, _, ⟨hH, hp, rfl, rfl⟩, fun C hC => bX0_passDaysOf_5 ho hC ⟨fun _ => ⟨rfl, rfl⟩, fun h => absurd (nI_le (by omega) (by omega)) h⟩⟩
  | succ n ih =>
    intro i p kf w v bef hi hH hp hk hb hx
    have hH2 : HR (va_up s o v o) nb nr p (nI kf) w := by rw [va_up_self]; exact hH
    by_cases c : nI kf ≤ bef
    · have e : bef = nI kf := by
        rcases hb with e | ⟨kb, hkb, e⟩
        · rw [e] at c
          exact absurd c (m1_lt (by omega))
        · rw [e] at c ⊢
          have := (nI_leI (by omega) (by omega)).mp c
          have : kb = kf := by omega
          rw [this]
      have hit : itp (n + 1) p r = (p.1 4 r, p.1 6 r) := it_fx (n + 1) (hx e)
      refine ⟨v, p, _, _, ⟨hH, hp, by rw [hit], by rw [hit]⟩, fun C hC => bX0_passDaysOf_5 ho hC ⟨fun _ => ⟨rfl, rfl⟩, fun _ => ⟨fun _ => ⟨rfl, rfl⟩, fun h => ?_⟩⟩⟩
      rw [va_up_self, hH.n12] at h
      exact absurd c h
    · obtain ⟨v1, hev, hH1⟩ := ev_spendDay (l := l) (ad := ad) (D := D) (ia := ia) (d := d) ho hH2 hp hr
      rw [up_up] at hev
      have g := gd_go 9 p r 0 (nI kf) w
      have hcn : (gr p r).2.2.1 ≤ 9 := go_cnt 9 _ _ _ _ _ _ _
      have ef : (gd 9 p r 0 (nI kf) w).2.1 = nI (kf + (gr p r).2.2.1) := by rw [g.2.2.1, nI_add]; rfl
      rw [ef] at hH1
      obtain ⟨v2, p2, f2, w2, h2, hz⟩ := ih (i + 1) _ (kf + (gr p r).2.2.1) _ v1 (nI kf) (by omega) hH1 (PI_gd 9 hp hr) (by omega) (Or.inr ⟨kf, by omega, rfl⟩) (fun e => fxp_gd (by
        have := (nI_eq (by omega) (by omega)).mp e
        omega))
      rw [itp_gd] at h2
      refine ⟨v2, p2, f2, w2, h2, fun C hC => bX0_passDaysOf_5 ho hC ⟨fun h => absurd h (nI_ge (by omega) (by omega)), fun _ => ⟨fun h => ?_, fun _ => ⟨_, _, hev, ?_⟩⟩⟩⟩
      · rw [va_up_self, hH.n12] at h
        exact absurd h c
      · rw [va_up_self, hH.n12, nI_1]
        exact hz C hC
theorem ev_passDaysOf (ho : zcls o = 0) (hr : r < nr) {N : Nat} (hN : N ≤ 60) (hH : HR (s o) nb nr p 0 w) (hp : PI nb nr p) : ∃ v2 p2 f2 w2, Ev l ad D ia (d + 4) mX0_passDaysOf [.ref (ad o 0), .int (nI r), .int (nI N)] s none (va_up s o v2) ∧ HR v2 nb nr p2 f2 w2 ∧ PI nb nr p2 ∧ p2.1 4 r = (itp N p r).1 ∧ p2.1 6 r = (itp N p r).2 := by
  obtain ⟨v2, p2, f2, w2, h2, hz⟩ := ev_ofL (l := l) (ad := ad) (D := D) (ia := ia) (d := d) (s := s) (nb := nb) ho hr hN N 0 p 0 w (s o) (-1) (by omega) hH hp (by omega) (Or.inl rfl) (fun e => absurd e (by decide))
  rw [up_id] at hz
  exact ⟨v2, p2, f2, w2, eX0_passDaysOf ho hz, h2⟩
/-- days till one of them is still -/
theorem ev_stillL (ho : zcls o = 0) {N : Nat} (hN : N ≤ 60) : ∀ (n i : Nat) (p : PS) (kf : Nat) (w : Int32) (v : OV) (bef : Int32), i + n = N → HR v nb nr p (nI kf) w → PI nb nr p → kf ≤ 36 * i → (bef = -1 ∨ ∃ kb, kb ≤ kf ∧ bef = nI kb) → (bef = nI kf → cntS nr 0 p = 0) →
    ∃ v2 p2 w2, (HR v2 nb nr p2 (days nr n (p, nI kf, w)).2.1 w2 ∧ p2.2 1 = (days nr n (p, nI kf, w)).1.2 1) ∧ ∀ C : ZC, Zok ad D ia C (d + 5) cX0_passDaysTillStill 4 RX0 none → Z l ad D ia C none (va_up s o v2) 4 [(0, .ref (ad o 0)), (1, .int (nI N)), (2, .int bef), (3, .int (nI i))] [] (va_up s o v) := by
  intro n
  induction n with
  | zero =>
    intro i p kf w v bef hi hH hp hk hb hx
    exact ⟨v, p, _, ⟨hH, rfl⟩, fun C hC => bX0_passDaysTillStill_4 ho hC ⟨fun _ => ⟨rfl, rfl⟩, fun h => absurd (nI_le (by omega) (by omega)) h⟩⟩
  | succ n ih =>
    intro i p kf w v bef hi hH hp hk hb hx
    have hH2 : HR (va_up s o v o) nb nr p (nI kf) w := by rw [va_up_self]; exact hH
    by_cases c : nI kf ≤ bef
    · have e : bef = nI kf := by
        rcases hb with e | ⟨kb, hkb, e⟩
        · rw [e] at c
          exact absurd c (m1_lt (by omega))
        · rw [e] at c ⊢
          have := (nI_leI (by omega) (by omega)).mp c
          have : kb = kf := by omega
          rw [this]
      have hs := still_days (nr := nr) (n + 1) (q := (p, nI kf, w)) (hx e)
      refine ⟨v, p, w, ⟨by rw [hs.1]; exact hH, hs.2.symm⟩, fun C hC => bX0_passDaysTillStill_4 ho hC ⟨fun _ => ⟨rfl, rfl⟩, fun _ => ⟨fun _ => ⟨rfl, rfl⟩, fun h => ?_⟩⟩⟩
      rw [va_up_self, hH.n12] at h
      exact absurd c h
    · obtain ⟨v1, hev, hH1⟩ := ev_passDay (l := l) (ad := ad) (D := D) (ia := ia) (d := d) ho hH2 hp
      rw [up_up] at hev
      have g := day_go nr (p, nI kf, w)
      have hcn := cntS_le nr 0 p
      have h4 := hp.1.2
      have ef : (day nr (p, nI kf, w)).2.1 = nI (kf + cntS nr 0 p) := by rw [g.2.2.1, nI_add]
      rw [ef] at hH1
      obtain ⟨v2, p2, w2, h2, hz⟩ := ih (i + 1) _ (kf + cntS nr 0 p) _ v1 (nI kf) (by omega) hH1 (PI_day (q := (p, nI kf, w)) hp) (by omega) (Or.inr ⟨kf, by omega, rfl⟩) (fun e => still_next (q := (p, nI kf, w)) (by
        have := (nI_eq (by omega) (by omega)).mp e
        show cntS nr 0 p = 0
        omega))
      have ed : ((day nr (p, nI kf, w)).1, nI (kf + cntS nr 0 p), (day nr (p, nI kf, w)).2.2) = day nr (p, nI kf, w) := by rw [← ef]
      rw [ed] at h2
      refine ⟨v2, p2, w2, h2, fun C hC => bX0_passDaysTillStill_4 ho hC ⟨fun h => absurd h (nI_ge (by omega) (by omega)), fun _ => ⟨fun h => ?_, fun _ => ⟨_, hev, ?_⟩⟩⟩⟩
      · rw [va_up_self, hH.n12] at h
        exact absurd h c
      · rw [va_up_self, hH.n12, nI_1]
        exact hz C hC
theorem ev_tillStill (ho : zcls o = 0) {N : Nat} (hN : N ≤ 60) (hH : HR (s o) nb nr p 0 w) (hp : PI nb nr p) : ∃ v2 p2 w2, Ev l ad D ia (d + 5) mX0_passDaysTillStill [.ref (ad o 0), .int (nI N)] s none (va_up s o v2) ∧ HR v2 nb nr p2 (days nr N (p, 0, w)).2.1 w2 ∧ p2.2 1 = (days nr N (p, 0, w)).1.2 1 := by
  obtain ⟨v2, p2, w2, h2, hz⟩ := ev_stillL (l := l) (ad := ad) (D := D) (ia := ia) (d := d) (s := s) (nb := nb) (nr := nr) ho hN N 0 p 0 w (s o) (-1) (by omega) hH hp (by omega) (Or.inl rfl) (fun e => absurd e (by decide))
  rw [up_id] at hz
  exact ⟨v2, p2, w2, eX0_passDaysTillStill ho hz, h2⟩
def tDp (p : PS) (r n j : Nat) : Int32 := tD (p.1 1) (p.1 2) (p.1 3 r) (p.1 5 r) n j (p.1 4 r, p.1 6 r)
theorem tDp_gd {p : PS} {r n j : Nat} {f w : Int32} (h : ¬ p.1 4 r = -4) : tDp (gd 9 p r 0 f w).1 r n (j + 1) = tDp p r (n + 1) j := by
  have g := gd_go 9 p r 0 f w
  unfold tDp
  rw [show (gd 9 p r 0 f w).1.1 1 = p.1 1 from funext fun i => gd_fr 9 p r 0 f w 1 i (Or.inl (by decide)), show (gd 9 p r 0 f w).1.1 2 = p.1 2 from funext fun i => gd_fr 9 p r 0 f w 2 i (Or.inl (by decide)), gd_fr 9 p r 0 f w 3 r (Or.inl (by decide)), gd_fr 9 p r 0 f w 5 r (Or.inl (by decide)), g.1, g.2.1]
  show _ = if p.1 4 r = -4 then _ else _
  rw [if_neg h]
theorem tDp_day {nr : Nat} {q : PS × Int32 × Int32} {r n j : Nat} (hr : r < nr) (h : ¬ q.1.1 4 r = -4) : tDp (day nr q).1 r n (j + 1) = tDp q.1 r (n + 1) j := by
  obtain ⟨a1, a2, -, -⟩ := day_go nr q
  unfold tDp
  rw [show (day nr q).1.1 1 = q.1.1 1 from funext fun i => a2 1 i (Or.inl (by decide)), show (day nr q).1.1 2 = q.1.1 2 from funext fun i => a2 2 i (Or.inl (by decide)), a2 3 r (Or.inl (by decide)), a2 5 r (Or.inl (by decide)), (a1 r hr).1, (a1 r hr).2]
  show _ = if q.1.1 4 r = -4 then _ else _
  rw [if_neg h]
  rfl
/-- he is stuck -/
theorem ev_stuck {C : ZC} (ho : zcls o = 0) {v : OV} {x2 x4 : Int32} (hC : Zok ad D ia C (d + 4) cX0_daysTillDone 6 RX0 (some .int)) : Z l ad D ia C (some (.int (-4))) (va_up s o v) 5 [(0, .ref (ad o 0)), (1, .int (nI r)), (2, .int x2), (3, .int 1), (4, .int x4)] [] (va_up s o v) :=
  bX0_daysTillDone_5 ho hC ⟨fun _ => ⟨rfl, rfl⟩, fun _ => ⟨fun _ => ⟨rfl, rfl⟩, fun h => absurd h (by decide)⟩⟩
theorem ev_tdL (ho : zcls o = 0) (hr : r < nr) {N : Nat} (hN : N ≤ 60) : ∀ (n j : Nat) (p : PS) (f w : Int32) (v : OV), j + n = N → HR v nb nr p f w → PI nb nr p → ∃ v2, ∀ C : ZC, Zok ad D ia C (d + 4) cX0_daysTillDone 6 RX0 (some .int) → Z l ad D ia C (some (.int (tDp p r n j))) (va_up s o v2) 5 [(0, .ref (ad o 0)), (1, .int (nI r)), (2, .int (nI N)), (3, .int 0), (4, .int (nI j))] [] (va_up s o v) := by
  intro n
  induction n with
  | zero =>
    intro j p f w v hj hH hp
    have hH2 : HR (va_up s o v o) nb nr p f w := by rw [va_up_self]; exact hH
    have hnl : ¬ nI N < nI j := nI_nlt (by omega) (by omega)
    have hdn := ev_isDone (l := l) (ad := ad) (D := D) (ia := ia) (d := d + 2) ho hH2 hp hr
    by_cases c : p.1 4 r = -4
    · rw [if_pos c] at hdn
      have e : tDp p r 0 j = nI j := if_pos c
      rw [e]
      exact ⟨v, fun C hC => bX0_daysTillDone_5 ho hC ⟨fun h => absurd h hnl, fun _ => ⟨fun h => absurd rfl h, fun _ => ⟨_, _, hdn, fun h => absurd h (by decide), fun _ => ⟨rfl, rfl⟩⟩⟩⟩⟩
    · rw [if_neg c] at hdn
      have e : tDp p r 0 j = -4 := if_neg c
      rw [e]
      obtain ⟨v1, hev, -⟩ := ev_spendDay (l := l) (ad := ad) (D := D) (ia := ia) (d := d) ho hH2 hp hr
      rw [up_up] at hev
      have hend : ∀ (C : ZC) (x : Int32), Zok ad D ia C (d + 4) cX0_daysTillDone 6 RX0 (some .int) → Z l ad D ia C (some (.int (-4))) (va_up s o v1) 5 [(0, .ref (ad o 0)), (1, .int (nI r)), (2, .int (nI N)), (3, .int x), (4, .int (nI j + 1))] [] (va_up s o v1) := fun C x hC => by
        rw [nI_1]
        exact bX0_daysTillDone_5 ho hC ⟨fun _ => ⟨rfl, rfl⟩, fun h => absurd (nI_lt (by omega) (by omega)) h⟩
      exact ⟨v1, fun C hC => bX0_daysTillDone_5 ho hC ⟨fun h => absurd h hnl, fun _ => ⟨fun h => absurd rfl h, fun _ => ⟨_, _, hdn, fun _ => ⟨_, _, hev, fun _ => hend C 0 hC, fun _ => ⟨fun _ => hend C 0 hC, fun _ => hend C 1 hC⟩⟩, fun h => absurd rfl h⟩⟩⟩⟩
  | succ n ih =>
    intro j p f w v hj hH hp
    have hH2 : HR (va_up s o v o) nb nr p f w := by rw [va_up_self]; exact hH
    have hnl : ¬ nI N < nI j := nI_nlt (by omega) (by omega)
    have hdn := ev_isDone (l := l) (ad := ad) (D := D) (ia := ia) (d := d + 2) ho hH2 hp hr
    by_cases c : p.1 4 r = -4
    · rw [if_pos c] at hdn
      have e : tDp p r (n + 1) j = nI j := if_pos c
      rw [e]
      exact ⟨v, fun C hC => bX0_daysTillDone_5 ho hC ⟨fun h => absurd h hnl, fun _ => ⟨fun h => absurd rfl h, fun _ => ⟨_, _, hdn, fun h => absurd h (by decide), fun _ => ⟨rfl, rfl⟩⟩⟩⟩⟩
    · rw [if_neg c] at hdn
      obtain ⟨v1, hev, hH1⟩ := ev_spendDay (l := l) (ad := ad) (D := D) (ia := ia) (d := d) ho hH2 hp hr
      rw [up_up] at hev
      have g := gd_go 9 p r 0 f w
      have hcn : (gr p r).2.2.1 ≤ 9 := go_cnt 9 _ _ _ _ _ _ _
      by_cases cs : ¬ (gd 9 p r 0 f w).2.2.2 = -4 ∧ (gr p r).2.2.1 = 0
      · have hfx := go_fix (n := 8) (m := 8) (h := p.1 1) (ld := p.1 2) (k := p.1 3 r) (br := p.1 5 r) (wt := p.1 4 r) (hd := p.1 6 r) cs.2
        have hw := hfx.2.2.2.2 (by rw [← g.2.2.2.1]; exact cs.1)
        have e : tDp p r (n + 1) j = -4 := tD_fx (n + 1) j (q := (p.1 4 r, p.1 6 r)) ⟨hw.1, hfx.1, cs.2⟩ c
        rw [e]
        refine ⟨v1, fun C hC => bX0_daysTillDone_5 ho hC ⟨fun h => absurd h hnl, fun _ => ⟨fun h => absurd rfl h, fun _ => ⟨_, _, hdn, fun _ => ⟨_, _, hev, fun h => absurd h cs.1, fun _ => ⟨fun h => ?_, fun _ => ev_stuck ho hC⟩⟩, fun h => absurd rfl h⟩⟩⟩⟩
        rw [va_up_self, va_up_self, hH1.n12, hH.n12, g.2.2.1] at h
        have e0 : nI (gr p r).2.2.1 = 0 := by rw [cs.2]; rfl
        exact absurd (by
          show f + nI (gr p r).2.2.1 = f
          rw [e0, Int32.add_zero]) h
      · obtain ⟨v2, hz⟩ := ih (j + 1) _ _ _ v1 (by omega) hH1 (PI_gd 9 hp hr)
        rw [tDp_gd c] at hz
        refine ⟨v2, fun C hC => bX0_daysTillDone_5 ho hC ⟨fun h => absurd h hnl, fun _ => ⟨fun h => absurd rfl h, fun _ => ⟨_, _, hdn, fun _ => ⟨_, _, hev, fun _ => ?_, fun h1 => ⟨fun _ => ?_, fun h2 => ?_⟩⟩, fun h => absurd rfl h⟩⟩⟩⟩
        · rw [nI_1]
          exact hz C hC
        · rw [nI_1]
          exact hz C hC
        · rw [va_up_self, va_up_self, hH1.n12, hH.n12, g.2.2.1] at h2
          exfalso
          apply cs
          refine ⟨h1, ?_⟩
          have h2 : f + nI (gr p r).2.2.1 = f := h2
          have h3 : nI (gr p r).2.2.1 = nI 0 := by
            rw [nI_0]
            grind
          exact (nI_eq (by omega) (by omega)).mp h3
theorem ev_daysTillDone (ho : zcls o = 0) (hr : r < nr) {N : Nat} (hN : N ≤ 60) (hH : HR (s o) nb nr p f w) (hp : PI nb nr p) : ∃ v2, Ev l ad D ia (d + 4) mX0_daysTillDone [.ref (ad o 0), .int (nI r), .int (nI N)] s (some (.int (tDp p r N 0))) (va_up s o v2) := by
  obtain ⟨v2, hz⟩ := ev_tdL (l := l) (ad := ad) (D := D) (ia := ia) (d := d) (s := s) (nb := nb) ho hr hN N 0 p f w (s o) (by omega) hH hp
  rw [up_id] at hz
  exact ⟨v2, eX0_daysTillDone ho hz⟩
theorem mv_toL (hr : r < nr) : ∀ (n j : Nat) (q : PS × Int32 × Int32) (m : Int32) (v : OV), j + n = 60 → MM v nb nr q.1 q.2.1 m q.2.2 → PI nb nr q.1 → ∃ v2, KN v v2 ∧ ∀ C : ZC, Zok ad D ia C (d + 5) cX9_daysTo 3 RX9 (some .int) → Z l ad D ia C (some (.int (tDp q.1 r n j))) (va_up s 20 v2) 2 [(0, .ref (ad 20 0)), (1, .int (nI r)), (2, .int (nI j))] [] (va_up s 20 v) := by
  intro n
  induction n with
  | zero =>
    intro j q m v hj hM hp
    have hM2 : MM (va_up s 20 v 20) nb nr q.1 q.2.1 m q.2.2 := by rw [va_up_self]; exact hM
    have hnl : ¬ (60 : Int32) < nI j := nI_nlt (a := 60) (b := j) (by omega) (by omega)
    have hw := mv_ofR (l := l) (ad := ad) (D := D) (ia := ia) (d := d + 4) (c := 1) hM2 hp (by decide) hr
    by_cases c : q.1.1 4 r = -4
    · have e : tDp q.1 r 0 j = nI j := if_pos c
      rw [e]
      exact ⟨v, KN.rf v, fun C hC => bX9_daysTo_2 hC ⟨fun h => absurd h hnl, fun _ => ⟨_, _, hw, fun h => absurd c h, fun _ => ⟨rfl, rfl⟩⟩⟩⟩
    · have e : tDp q.1 r 0 j = -4 := if_neg c
      rw [e]
      obtain ⟨v1, hev, hM1, kn1⟩ := mv_dayGoes (l := l) (ad := ad) (D := D) (ia := ia) (d := d) hM2 hp
      rw [up_up] at hev
      rw [va_up_self] at kn1
      refine ⟨v1, kn1, fun C hC => bX9_daysTo_2 hC ⟨fun h => absurd h hnl, fun _ => ⟨_, _, hw, fun _ => ⟨_, hev, ?_⟩, fun h => absurd h c⟩⟩⟩
      rw [nI_1]
      exact bX9_daysTo_2 hC ⟨fun _ => ⟨rfl, rfl⟩, fun h => absurd (nI_lt (a := 60) (b := j + 1) (by omega) (by omega)) h⟩
  | succ n ih =>
    intro j q m v hj hM hp
    have hM2 : MM (va_up s 20 v 20) nb nr q.1 q.2.1 m q.2.2 := by rw [va_up_self]; exact hM
    have hnl : ¬ (60 : Int32) < nI j := nI_nlt (a := 60) (b := j) (by omega) (by omega)
    have hw := mv_ofR (l := l) (ad := ad) (D := D) (ia := ia) (d := d + 4) (c := 1) hM2 hp (by decide) hr
    by_cases c : q.1.1 4 r = -4
    · have e : tDp q.1 r (n + 1) j = nI j := if_pos c
      rw [e]
      exact ⟨v, KN.rf v, fun C hC => bX9_daysTo_2 hC ⟨fun h => absurd h hnl, fun _ => ⟨_, _, hw, fun h => absurd c h, fun _ => ⟨rfl, rfl⟩⟩⟩⟩
    · obtain ⟨v1, hev, hM1, kn1⟩ := mv_dayGoes (l := l) (ad := ad) (D := D) (ia := ia) (d := d) hM2 hp
      rw [up_up] at hev
      rw [va_up_self] at kn1
      obtain ⟨v2, kn2, hz⟩ := ih (j + 1) (day nr q) _ v1 (by omega) hM1 (PI_day hp)
      rw [tDp_day hr c] at hz
      refine ⟨v2, kn1.tr kn2, fun C hC => bX9_daysTo_2 hC ⟨fun h => absurd h hnl, fun _ => ⟨_, _, hw, fun _ => ⟨_, hev, ?_⟩, fun h => absurd h c⟩⟩⟩
      rw [nI_1]
      exact hz C hC
theorem mv_daysTo (hr : r < nr) (hM : MM (s 20) nb nr p f m w) (hp : PI nb nr p) : ∃ v2, Ev l ad D ia (d + 5) mX9_daysTo [.ref (ad 20 0), .int (nI r)] s (some (.int (tDp p r 60 0))) (va_up s 20 v2) ∧ KN (s 20) v2 := by
  obtain ⟨v2, kn2, hz⟩ := mv_toL (l := l) (ad := ad) (D := D) (ia := ia) (d := d) (s := s) (nb := nb) hr 60 0 (p, f, w) m (s 20) (by omega) hM hp
  rw [up_id] at hz
  exact ⟨v2, eX9_daysTo hz, kn2⟩
end ST
