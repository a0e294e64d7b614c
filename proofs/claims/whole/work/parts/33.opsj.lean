/-- why a reader may not fetch a book; 0 if he may -/
def rfs (nb nr : Nat) (p : PS) (x y : Int32) : Int32 := if (inN x nr && inN y nb) = true then (if hadq p (bk x) (bk y) = 0 then (if p.2 1 + mns p (bk x) (bk y) ≤ 9999 then 0 else -3) else -2) else -1
def fcP (nb nr : Nat) (p : PS) (x y : Int32) : PS := if rfs nb nr p x y = 0 then fet p (bk x) (bk y) else p
def fcX (nb nr : Nat) (p : PS) (x y : Int32) : Int32 := if rfs nb nr p x y = 0 then mns p (bk x) (bk y) else rfs nb nr p x y
theorem rfs_0 {nb nr : Nat} {p : PS} {x y : Int32} (h : rfs nb nr p x y = 0) : inN x nr = true ∧ inN y nb = true ∧ hadq p (bk x) (bk y) = 0 ∧ p.2 1 + mns p (bk x) (bk y) ≤ 9999 := by
  unfold rfs at h
  by_cases c : (inN x nr && inN y nb) = true
  · rw [if_pos c] at h
    by_cases c2 : hadq p (bk x) (bk y) = 0
    · rw [if_pos c2] at h
      by_cases c3 : p.2 1 + mns p (bk x) (bk y) ≤ 9999
      · rw [Bool.and_eq_true] at c
        exact ⟨c.1, c.2, c2, c3⟩
      · rw [if_neg c3] at h
        exact absurd h (by decide)
    · rw [if_neg c2] at h
      exact absurd h (by decide)
  · rw [if_neg c] at h
    exact absurd h (by decide)
theorem clk_rng {a : Int32} {t : Nat} (h : rng a 0 9999) (ht : t < 1000000) (hle : a + nI t ≤ 9999) : rng (a + nI t) 0 9999 := by
  obtain ⟨c, -, hc, rfl⟩ := h
  rw [nI_add] at hle ⊢
  have := (nI_leI (a := c + t) (b := 9999) (by omega) (by omega)).mp hle
  exact ⟨c + t, by omega, this, rfl⟩
theorem bk_nI {k : Nat} (h : k < 2 ^ 31) : bk (nI k) = k := nI_clamp h
theorem fcP_B {nb nr : Nat} {p : PS} {x y : Int32} (h : PB nb nr p) : PB nb nr (fcP nb nr p x y) := by
  unfold fcP
  by_cases c : rfs nb nr p x y = 0
  · rw [if_pos c]
    obtain ⟨h1, h2, h3, h4⟩ := rfs_0 c
    obtain ⟨r, hr, rfl⟩ := inN_nI h1
    obtain ⟨b, hb, rfl⟩ := inN_nI h2
    have h8 := h.1.1.1
    have h44 := h.1.1.2
    rw [bk_nI (by omega), bk_nI (by omega)] at h4 ⊢
    obtain ⟨u, hu, eu⟩ := mns_rng (h.2.1 _ hb) (h.1.2.2.2 _ hb) (h.2.2.1 r hr).1 h.2.2.2.1
    refine (PC_fet h.C hb).B ?_ h.2.2.2.2.2
    show rng (p.2 1 + mns p r b) 0 9999
    rw [eu] at h4 ⊢
    exact clk_rng h.2.2.2.2.1 (by omega) h4
  · rw [if_neg c]
    exact h
section OJ
variable {l : Launch} {ad : ZA} {D : va_G} {ia : Nat → ClassId} {d nb nr r b o o1 : Nat} {s : ZS} {p : PS} {f m w : Int32}
theorem ev_refusalOf (ho : zcls o = 0) (hH : HR (s o) nb nr p f w) (hp : PI nb nr p) (x y : Int32) : Ev l ad D ia (d + 2) mX0_refusalOf [.ref (ad o 0), .int x, .int y] s (some (.int (rfs nb nr p x y))) s := by
  have h8 := hp.1.1
  have h4 := hp.1.2
  have hB := ev_hasR (l := l) (ad := ad) (D := D) (ia := ia) (d := d + 1) (s := s) ho hH.n4 h4 x
  have hB2 := ev_hasB (l := l) (ad := ad) (D := D) (ia := ia) (d := d + 1) (s := s) ho hH.n0 h8 y
  unfold rfs
  by_cases cx : inN x nr = true
  · rw [cx] at hB
    by_cases cy : inN y nb = true
    · rw [cy] at hB2
      rw [cx, cy, Bool.and_true, if_pos rfl]
      obtain ⟨r, hr, rfl⟩ := inN_nI cx
      obtain ⟨b, hb, rfl⟩ := inN_nI cy
      rw [bk_nI (by omega), bk_nI (by omega)]
      refine eX0_refusalOf ho ⟨_, _, hB, fun h => absurd h (by decide), fun _ => ⟨_, _, hB2, fun _ => ⟨_, _, ev_hasHad ho hH hp hr, fun h => ⟨_, _, ev_minutesFor ho hH hp hr hb, fun h2 => ⟨?_, rfl⟩, fun h2 => ⟨?_, rfl⟩⟩, fun h => ⟨?_, rfl⟩⟩, fun h => absurd h (by decide)⟩⟩
      · rw [hH.n10] at h2
        by_cases c : hadq p r b = 0
        · rw [if_pos c, if_pos h2]
        · rw [if_neg c] at h
          exact absurd h (by decide)
      · rw [hH.n10] at h2
        by_cases c : hadq p r b = 0
        · rw [if_pos c, if_neg h2]
        · rw [if_neg c] at h
          exact absurd h (by decide)
      · by_cases c : hadq p r b = 0
        · rw [if_pos c] at h
          exact absurd rfl h
        · rw [if_neg c]
    · rw [bool_f cy] at hB2
      rw [cx, bool_f cy, if_neg (by decide)]
      exact eX0_refusalOf ho ⟨_, _, hB, fun h => absurd h (by decide), fun _ => ⟨_, _, hB2, fun h => absurd rfl h, fun _ => ⟨rfl, rfl⟩⟩⟩
  · rw [bool_f cx] at hB
    rw [bool_f cx, if_neg (by simp)]
    exact eX0_refusalOf ho ⟨_, _, hB, fun _ => ⟨rfl, rfl⟩, fun h => absurd rfl h⟩
theorem mv_settles : ∃ a2, Ev l ad D ia d mX9_settles [.ref (ad 20 0)] s none (va_up s 20 (setA (s 20) 0 a2)) ∧ (∀ j, j < 62 → a2 j = (s 20).2.2 1 j) ∧ ∀ j, 62 ≤ j → a2 j = (s 20).2.2 0 j := by
  have h : ∀ (k i : Nat) (a : Nat → Int32), i + k = 62 → (∀ j, j < i → a j = (s 20).2.2 1 j) → (∀ j, i ≤ j → a j = (s 20).2.2 0 j) → ∃ a2, ((∀ j, j < 62 → a2 j = (s 20).2.2 1 j) ∧ ∀ j, 62 ≤ j → a2 j = (s 20).2.2 0 j) ∧ ∀ C : ZC, Zok ad D ia C d cX9_settles 2 RX9 none → Z l ad D ia C none (va_up s 20 (setA (s 20) 0 a2)) 2 [(0, .ref (ad 20 0)), (1, .int (nI i))] [] (va_up s 20 (setA (s 20) 0 a)) := by
    intro k
    induction k with
    | zero =>
      intro i a hk h1 h2
      exact ⟨a, ⟨fun j hj => h1 j (by omega), fun j hj => h2 j (by omega)⟩, fun C hC => bX9_settles_2 hC ⟨fun _ => ⟨rfl, rfl⟩, fun h => absurd (nI_le (a := 62) (b := i) (by omega) (by omega)) h⟩⟩
    | succ k ih =>
      intro i a hk h1 h2
      obtain ⟨a2, ha2, hz⟩ := ih (i + 1) (upd a i ((s 20).2.2 1 i)) (by omega) (by
        intro j hj
        by_cases e : j = i
        · rw [e, upd_self]
        · rw [upd_ne _ _ e]
          exact h1 j (by omega)) (by
        intro j hj
        rw [upd_ne _ _ (by omega)]
        exact h2 j (by omega))
      refine ⟨a2, ha2, fun C hC => bX9_settles_2 hC ⟨fun h => absurd h (nI_ge (a := i) (b := 62) (by omega) (by omega)), fun _ => ⟨vp_in_nI (by omega) (by omega), vp_in_nI (by omega) (by omega), fun s1 e1 => ?_⟩⟩⟩
      rw [nI_clamp (by omega), va_up_self, stA_up] at e1
      have e1 : s1 = va_up s 20 (setA (s 20) 0 (upd a i ((s 20).2.2 1 i))) := by
        rw [e1]
        show va_up s 20 ((s 20).1, (s 20).2.1, va_up (va_up (s 20).2.2 0 a) 0 (upd (va_up (s 20).2.2 0 a 0) i (va_up (s 20).2.2 0 a 1 i))) = _
        rw [up_up, va_up_self, va_up_ne _ _ (by decide)]
        rfl
      subst e1
      rw [nI_1]
      exact hz C hC
  obtain ⟨a2, ⟨h1, h2⟩, hz⟩ := h 62 0 ((s 20).2.2 0) rfl (fun j hj => absurd hj (by omega)) (fun j _ => rfl)
  have e : va_up s 20 (setA (s 20) 0 ((s 20).2.2 0)) = s := by
    have : setA (s 20) 0 ((s 20).2.2 0) = s 20 := by
      unfold setA
      rw [up_id]
    rw [this, up_id]
  rw [e] at hz
  exact ⟨a2, eX9_settles hz, h1, h2⟩
/-- what goes is settled -/
theorem MR_set {v v2 : OV} {nb nr : Nat} {p p2 : PS} {tl : Nat} {tb : Nat → Int32} {flt : Int32} {sn : Nat} {sa : Nat → Nat → Int32} {K : KT} {H : HT} {tn : Int32} (h : MR v nb nr p tl tb flt sn sa K H tn) (h8 : nb ≤ 8) (h4 : nr ≤ 4) (h6 : sn ≤ 6) (hk : KM v v2) (hn : NR (v2.2.2 1) nb nr p2) (ht : ∀ j, 43 ≤ j → j < 62 → v2.2.2 1 j = v.2.2 0 j) {a2 : Nat → Int32} (h1 : ∀ j, j < 62 → a2 j = v2.2.2 1 j) (h2 : ∀ j, 62 ≤ j → a2 j = v2.2.2 0 j) : MR (setA v2 0 a2) nb nr p2 tl tb flt sn sa K H tn := by
  have m1 := sat0.mp h.2.2.2.1
  refine MR_a (MR_km hk h) h2 (sat0.mpr ⟨?_, ?_, ?_⟩)
  · obtain ⟨n1, n2, n3⟩ := hn
    exact ⟨fun c hc b hb => by rw [h1 _ (by omega)]; exact n1 c hc b hb, fun c hc b hb => by rw [h1 _ (by omega)]; exact n2 c hc b hb, fun j hj => by rw [h1 _ (by omega)]; exact n3 j hj⟩
  · rw [h1 _ (by omega), ht _ (by omega) (by omega)]
    exact m1.2.1
  · intro i j hi hj
    rw [h1 _ (by omega), ht _ (by omega) (by omega)]
    exact m1.2.2 i j hi hj
theorem mv_fetch {tl : Nat} {tb : Nat → Int32} {flt : Int32} {sn : Nat} {sa : Nat → Nat → Int32} {K : KT} {H : HT} {tn : Int32} (hM : MR (s 20) nb nr p tl tb flt sn sa K H tn) (hp : PI nb nr p) (h6 : sn ≤ 6) (x y : Int32) : ∃ v, Ev l ad D ia (d + 4) mX9_fetch [.ref (ad 20 0), .int x, .int y] s (some (.int (fcX nb nr p x y))) (va_up s 20 v) ∧ MR v nb nr (fcP nb nr p x y) tl tb flt sn sa K H tn ∧ (∀ k, k ≠ 0 → k ≠ 1 → v.2.2 k = (s 20).2.2 k) := by
  have h8 := hp.1.1
  have h4 := hp.1.2
  have hB := mv_isReader (l := l) (ad := ad) (D := D) (ia := ia) (d := d + 2) (s := s) hM.1.2 h4 x
  have hB2 := mv_isBook (l := l) (ad := ad) (D := D) (ia := ia) (d := d + 2) (s := s) hM.1.1 h8 y
  by_cases cx : inN x nr = true
  · rw [cx] at hB
    by_cases cy : inN y nb = true
    · rw [cy] at hB2
      obtain ⟨r, hr, rfl⟩ := inN_nI cx
      obtain ⟨b, hb, rfl⟩ := inN_nI cy
      have er : bk (nI r) = r := bk_nI (by omega)
      have eb : bk (nI b) = b := bk_nI (by omega)
      obtain ⟨v1, hv1, hMM, hk1, ht1⟩ := mv_starts2 (l := l) (ad := ad) (D := D) (ia := ia) (d := d + 3) hM.1 hM.2.2.2.1 h8 h4
      have hMM1 : MM (va_up s 20 v1 20) nb nr p (v1.1 18) (v1.1 19) (v1.1 20) := by rw [va_up_self]; exact hMM
      have hhd := mv_had (l := l) (ad := ad) (D := D) (ia := ia) (d := d + 2) (b := b) hMM1 hp hr
      by_cases c2 : hadq p r b = 0
      · rw [if_pos c2] at hhd
        obtain ⟨v2, hv2, hMM2, hk2⟩ := mv_startsCounting (l := l) (ad := ad) (D := D) (ia := ia) (d := d + 3) hMM1
        rw [up_up] at hv2
        rw [va_up_self] at hk2
        have hMM2b : MM (va_up s 20 v2 20) nb nr p 0 0 0 := by rw [va_up_self]; exact hMM2
        obtain ⟨v3, hv3, hMM3, hk3, -⟩ := mv_fetches (l := l) (ad := ad) (D := D) (ia := ia) (d := d + 1) hMM2b hp hr hb
        rw [up_up] at hv3
        rw [va_up_self] at hk3
        have q41 : (va_up s 20 v3 20).2.2 1 (41 : Int32).toNatClampNeg = p.2 1 + mns p r b := by
          rw [va_up_self]
          exact hMM3.2.1.2.2 1 (by decide)
        have hk : KM (s 20) v3 := (hk1.M.tr hk2.M).tr hk3.M
        by_cases c3 : p.2 1 + mns p r b ≤ 9999
        · have hrf : rfs nb nr p (nI r) (nI b) = 0 := by
            unfold rfs
            rw [cx, cy, Bool.and_true, if_pos rfl, er, eb, if_pos c2, if_pos c3]
          unfold fcX fcP
          rw [hrf, if_pos rfl, if_pos rfl, er, eb]
          obtain ⟨a2, hse, ha1, ha2⟩ := mv_settles (l := l) (ad := ad) (D := D) (ia := ia) (d := d + 3) (s := va_up s 20 v3)
          rw [up_up] at hse
          rw [va_up_self] at hse ha1 ha2
          refine ⟨_, eX9_fetch ⟨_, _, hB, fun h => absurd h (by decide), fun _ => ⟨_, _, hB2, fun _ => ⟨_, hv1, _, _, hhd, fun _ => ⟨_, hv2, _, hv3, vp_in_nI (n := 41) (by decide) (by decide), fun _ => ⟨_, hse, ?_, rfl⟩, fun h => ?_⟩, fun h => absurd rfl h⟩, fun h => absurd h (by decide)⟩⟩, MR_set hM h8 h4 h6 hk hMM3.2.1 (fun j h1 h2 => ?_) ha1 ha2, fun k h0 h1 => ?_⟩
          · rw [va_up_self]
            have : (setA v3 0 a2).1 19 = 0 + mns p r b := hMM3.2.2.2.1
            rw [this, Int32.zero_add]
          · rw [q41] at h
            exact absurd c3 h
          · rw [hk3.2 j h1, hk2.2 j h1]
            exact ht1 j h2
          · show va_up v3.2.2 0 a2 k = _
            rw [va_up_ne _ _ h0, hk3.1.2.1 k h1, hk2.1.2.1 k h1, hk1.2.1 k h1]
        · have hrf : rfs nb nr p (nI r) (nI b) = -3 := by
            unfold rfs
            rw [cx, cy, Bool.and_true, if_pos rfl, er, eb, if_pos c2, if_neg c3]
          unfold fcX fcP
          rw [hrf, if_neg (by decide), if_neg (by decide)]
          refine ⟨v3, eX9_fetch ⟨_, _, hB, fun h => absurd h (by decide), fun _ => ⟨_, _, hB2, fun _ => ⟨_, hv1, _, _, hhd, fun _ => ⟨_, hv2, _, hv3, vp_in_nI (n := 41) (by decide) (by decide), fun h => ?_, fun _ => ⟨rfl, rfl⟩⟩, fun h => absurd rfl h⟩, fun h => absurd h (by decide)⟩⟩, MR_km hk hM, fun k h0 h1 => by rw [hk3.1.2.1 k h1, hk2.1.2.1 k h1, hk1.2.1 k h1]⟩
          rw [q41] at h
          exact absurd h c3
      · rw [if_neg c2] at hhd
        have hrf : rfs nb nr p (nI r) (nI b) = -2 := by
          unfold rfs
          rw [cx, cy, Bool.and_true, if_pos rfl, er, eb, if_neg c2]
        unfold fcX fcP
        rw [hrf, if_neg (by decide), if_neg (by decide)]
        exact ⟨v1, eX9_fetch ⟨_, _, hB, fun h => absurd h (by decide), fun _ => ⟨_, _, hB2, fun _ => ⟨_, hv1, _, _, hhd, fun h => absurd h (by decide), fun _ => ⟨rfl, rfl⟩⟩, fun h => absurd h (by decide)⟩⟩, MR_km hk1.M hM, fun k h0 h1 => hk1.2.1 k h1⟩
    · rw [bool_f cy] at hB2
      have hrf : rfs nb nr p x y = -1 := by
        unfold rfs
        rw [bool_f cy, Bool.and_false, if_neg (by decide)]
      unfold fcX fcP
      rw [hrf, if_neg (by decide), if_neg (by decide)]
      refine ⟨s 20, eX9_fetch ⟨_, _, hB, fun h => absurd h (by decide), fun _ => ⟨_, _, hB2, fun h => absurd rfl h, fun _ => ⟨rfl, ?_⟩⟩⟩, hM, fun _ _ _ => rfl⟩
      rw [up_id]
  · rw [bool_f cx] at hB
    have hrf : rfs nb nr p x y = -1 := by
      unfold rfs
      rw [bool_f cx, Bool.false_and, if_neg (by decide)]
    unfold fcX fcP
    rw [hrf, if_neg (by decide), if_neg (by decide)]
    refine ⟨s 20, eX9_fetch ⟨_, _, hB, fun _ => ⟨rfl, ?_⟩, fun h => absurd rfl h⟩, hM, fun _ _ _ => rfl⟩
    rw [up_id]
theorem op_fetch (hR : RR s) (x y : Int32) : Op l ad D ia s mX8_fetch mX9_fetch [.int x, .int y] := by
  obtain ⟨nb, nr, p, tl, tb, flt, sn, sa, K, H, tn, hG, hC, hM⟩ := hR
  have hp := hG.1.1
  obtain ⟨f, w, hH⟩ := hC.1
  have hrf := ev_refusalOf (l := l) (ad := ad) (D := D) (ia := ia) (d := 6) (s := s) (o := 1) rfl hH hp x y
  by_cases c : rfs nb nr p x y = 0
  · obtain ⟨h1, h2, h3, h4⟩ := rfs_0 c
    obtain ⟨r, hr, rfl⟩ := inN_nI h1
    obtain ⟨b, hb, rfl⟩ := inN_nI h2
    have er : bk (nI r) = r := bk_nI (by have := hp.1.2; omega)
    have eb : bk (nI b) = b := bk_nI (by have := hp.1.1; omega)
    obtain ⟨v1, hv1, hH1⟩ := ev_bring (l := l) (ad := ad) (D := D) (ia := ia) (d := 6) (s := s) (o := 1) rfl hH hp hr hb
    have hM1 : MR (va_up s 1 v1 20) nb nr p tl tb flt sn sa K H tn := by rw [va_up_ne _ _ (by decide)]; exact hM
    obtain ⟨v, hev, hM2, -⟩ := mv_fetch (l := l) (ad := ad) (D := D) (ia := ia) (d := 5) hM1 hp hG.2.2.1.1 (nI r) (nI b)
    have eX : fcX nb nr p (nI r) (nI b) = mns p r b := by unfold fcX; rw [if_pos c, er, eb]
    have eP : fcP nb nr p (nI r) (nI b) = fet p r b := by unfold fcP; rw [if_pos c, er, eb]
    rw [eX] at hev
    rw [c] at hrf
    refine ⟨.int (mns p r b), _, _, eX8_fetch ⟨_, _, hrf, fun h => absurd rfl h, fun _ => ⟨_, _, hv1, rfl, rfl⟩⟩, hev, nb, nr, fcP nb nr p (nI r) (nI b), tl, tb, flt, sn, sa, K, H, tn, ⟨fcP_B hG.1, hG.2⟩, CR_20 (CR_h hC (by rw [eP]; exact ⟨_, _, hH1⟩)), by rw [va_up_self]; exact hM2⟩
  · obtain ⟨v, hev, hM2, -⟩ := mv_fetch (l := l) (ad := ad) (D := D) (ia := ia) (d := 5) hM hp hG.2.2.1.1 x y
    have eX : fcX nb nr p x y = rfs nb nr p x y := by unfold fcX; rw [if_neg c]
    have eP : fcP nb nr p x y = p := by unfold fcP; rw [if_neg c]
    rw [eX] at hev
    rw [eP] at hM2
    exact ⟨.int (rfs nb nr p x y), _, _, eX8_fetch ⟨_, _, hrf, fun _ => ⟨rfl, rfl⟩, fun h => absurd h c⟩, hev, nb, nr, p, tl, tb, flt, sn, sa, K, H, tn, hG, CR_20 hC, by rw [va_up_self]; exact hM2⟩
end OJ
