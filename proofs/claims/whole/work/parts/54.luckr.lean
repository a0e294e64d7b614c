def lF (a c : Nat → Nat) (v mo n pat : Nat) : Nat := if mt a c pat n ≤ mo then wt v pat n else 0
def lG (a c : Nat → Nat) (v n pat : Nat) : Nat := wt v pat n * mt a c pat n
theorem lF_le (a c : Nat → Nat) {v : Nat} (hv : v ≤ 10) (mo n : Nat) : sm (lF a c v mo n) (2 ^ n) ≤ 10 ^ n := by
  rw [← W_sum hv n]
  refine sm_le _ (fun i _ => ?_)
  unfold lF
  by_cases e : mt a c i n ≤ mo
  · rw [if_pos e]
    exact Nat.le_refl _
  · rw [if_neg e]
    exact Nat.zero_le _
theorem pow8 {n : Nat} (h : n ≤ 8) : 10 ^ n ≤ 100000000 ∧ 0 < 10 ^ n ∧ 2 ^ n ≤ 256 := by
  have h1 := Nat.pow_le_pow_right (n := 10) (by decide) h
  have h2 := Nat.pow_le_pow_right (n := 2) (by decide) h
  exact ⟨h1, Nat.pow_pos (by decide), h2⟩
theorem t10 {v : Nat} (hv : v ≤ 10) : (10 - nI v).toInt64 = lN (10 - v) := by
  have : (10 : Int32) - nI v = nI (10 - v) := pk_sub (a := 10) hv
  rw [this, nI_64 (by omega)]
theorem setL_s (v : OV) (k : Nat) (x : Int64) : (setL v k x).2.1 k = x := va_up_self v.2.1 k x
theorem setL_n (v : OV) {k j : Nat} (x : Int64) (h : j ≠ k) : (setL v k x).2.1 j = v.2.1 j := va_up_ne v.2.1 x h
theorem stL_up (s : ZS) (o k : Nat) (v : OV) (x : Int64) : stL (va_up s o v) o k x = va_up s o (setL v k x) := by unfold stL; rw [va_up_self, up_up]
theorem KM.L (v : OV) (k : Nat) (x : Int64) : KM v (setL v k x) := ⟨fun _ _ => rfl, fun _ _ => rfl⟩
theorem upd_id (a : Nat → Int32) (i : Nat) : upd a i (a i) = a := by
  funext j
  unfold upd
  by_cases h : j = i
  · rw [if_pos h, h]
  · rw [if_neg h]
section LCR
variable {l : Launch} {ad : ZA} {D : va_G} {ia : Nat → ClassId} {d nb nr r b o o1 sn : Nat} {s : ZS} {p : PS} {f m w : Int32}
theorem ev_ww {n v mo : Nat} (hp : PC nb nr p) (hn : n ≤ 8) (hv : v ≤ 10) (hmo : mo ≤ 9999) (hF : FW (s 18) nr p n n) : Ev l ad D ia d mX4_weightWithin [.ref (ad 18 0), .int (nI v), .int (nI mo)] s (some (.long (lN (sm (lF (aS nr p) (aR nr p) v mo n) (2 ^ n))))) s := by
  refine eX4_weightWithin (fun C hC => ?_)
  have h2 := (pow8 hn).2.2
  have hs : (1 : Int32) <<< ((s 18).1 0 &&& 31) = nI (2 ^ n) := by rw [hF.1, one_shl n hn]
  have outer : ∀ (k pat : Nat), pat + k = 2 ^ n → Z l ad D ia C (some (.long (lN (sm (lF (aS nr p) (aR nr p) v mo n) (2 ^ n))))) s 5 [(0, .ref (ad 18 0)), (1, .int (nI v)), (2, .int (nI mo)), (3, .long (lN (sm (lF (aS nr p) (aR nr p) v mo n) pat))), (5, .int (nI pat))] [] s := by
    intro k
    induction k with
    | zero =>
      intro pat hpat
      have e : pat = 2 ^ n := by omega
      subst e
      refine bX4_weightWithin_5 hC ⟨fun _ => ⟨rfl, rfl⟩, fun h => ?_⟩
      rw [hs] at h
      exact absurd (nI_le (Nat.le_refl _) (by omega)) h
    | succ k ih =>
      intro pat hpat
      have ih := ih (pat + 1) (by omega)
      have hmt := mt_bnd (fun k => (aS_eq hp k).2) (fun k => (aR_eq hp k).2) pat n
      have inner : ∀ (j i : Nat), i + j = n → Z l ad D ia C (some (.long (lN (sm (lF (aS nr p) (aR nr p) v mo n) (2 ^ n))))) s 25 [(0, .ref (ad 18 0)), (1, .int (nI v)), (2, .int (nI mo)), (3, .long (lN (sm (lF (aS nr p) (aR nr p) v mo n) pat))), (5, .int (nI pat)), (6, .int (nI (mt (aS nr p) (aR nr p) pat i))), (7, .long (lN (wt v pat i))), (9, .int (nI i))] [] s := by
        intro j
        induction j with
        | zero =>
          intro i hi
          have e : i = n := by omega
          subst e
          refine bX4_weightWithin_25 hC ⟨fun _ => ⟨fun h => ?_, fun h => ?_⟩, fun h => ?_⟩
          · have e : sm (lF (aS nr p) (aR nr p) v mo i) (pat + 1) = sm (lF (aS nr p) (aR nr p) v mo i) pat := by
              show _ + lF (aS nr p) (aR nr p) v mo i pat = _
              have : ¬ mt (aS nr p) (aR nr p) pat i ≤ mo := fun q => nI_nlt q (by omega) h
              unfold lF
              rw [if_neg this]
              rfl
            rw [e] at ih
            rw [nI_1]
            exact ih
          · have e : sm (lF (aS nr p) (aR nr p) v mo i) (pat + 1) = sm (lF (aS nr p) (aR nr p) v mo i) pat + wt v pat i := by
              show _ + lF (aS nr p) (aR nr p) v mo i pat = _
              have : mt (aS nr p) (aR nr p) pat i ≤ mo := by
                apply Classical.byContradiction
                intro q
                exact h (nI_lt (by omega) (by omega))
              unfold lF
              rw [if_pos this]
            rw [e, ← lN_add] at ih
            rw [nI_1]
            exact ih
          · rw [hF.1] at h
            exact absurd (nI_le (Nat.le_refl _) (by omega)) h
        | succ j ih2 =>
          intro i hi
          have ih2 := ih2 (i + 1) (by omega)
          have hb := sh1 (nI pat) (h := i) (by omega)
          rw [bt_tb (by omega)] at hb
          have r1 := (hF.2 i (by omega)).1
          have r2 := (hF.2 i (by omega)).2
          have hnl : ¬ (s 18).1 0 ≤ nI i := by
            rw [hF.1]
            exact nI_ge (by omega) (by omega)
          cases ht : pat.testBit i
          · rw [ht] at hb
            have em : mt (aS nr p) (aR nr p) pat (i + 1) = mt (aS nr p) (aR nr p) pat i + aS nr p i := by
              show _ + (if pat.testBit i = true then _ else _) = _
              rw [ht]
              rfl
            have ew : wt v pat (i + 1) = wt v pat i * (10 - v) := by
              show _ * (if pat.testBit i = true then _ else _) = _
              rw [ht]
              rfl
            rw [em, ew] at ih2
            refine bX4_weightWithin_25 hC ⟨fun h => absurd h hnl, fun _ => ⟨fun _ => bX4_weightWithin_49 hC ⟨fun _ => ⟨vp_in_nI (by omega) (by omega), fun _ => ?_, fun h => absurd rfl h⟩, fun h => absurd rfl h⟩, fun h => ?_⟩⟩
            · rw [nI_clamp (by omega), r1, t10 hv, nI_add, lN_mul, nI_1]
              exact ih2
            · rw [hb] at h
              exact absurd rfl h
          · rw [ht] at hb
            have em : mt (aS nr p) (aR nr p) pat (i + 1) = mt (aS nr p) (aR nr p) pat i + aR nr p i := by
              show _ + (if pat.testBit i = true then _ else _) = _
              rw [ht]
              rfl
            have ew : wt v pat (i + 1) = wt v pat i * v := by
              show _ * (if pat.testBit i = true then _ else _) = _
              rw [ht]
              rfl
            rw [em, ew] at ih2
            refine bX4_weightWithin_25 hC ⟨fun h => absurd h hnl, fun _ => ⟨fun h => ?_, fun _ => bX4_weightWithin_49 hC ⟨fun h => absurd h (by decide), fun _ => ⟨vp_in_nI (by omega) (by omega), fun h => absurd h (by decide), fun _ => ?_⟩⟩⟩⟩
            · rw [hb] at h
              exact absurd h (by decide)
            · rw [nI_clamp (by omega), r2, nI_64 (by omega), nI_add, lN_mul, nI_1]
              exact ih2
      have := inner n 0 (by omega)
      refine bX4_weightWithin_5 hC ⟨fun h => ?_, fun _ => this⟩
      rw [hs] at h
      exact absurd h (nI_ge (by omega) (by omega))
  exact outer (2 ^ n) 0 (by omega)
theorem ev_tm {n v : Nat} (hp : PC nb nr p) (hn : n ≤ 8) (hv : v ≤ 10) (hF : FW (s 18) nr p n n) : Ev l ad D ia d mX4_tenTimesMean [.ref (ad 18 0), .int (nI v)] s (some (.long (lN (tm (aS nr p) (aR nr p) v n)))) s := by
  refine eX4_tenTimesMean (fun C hC => ?_)
  have lp : ∀ (j i : Nat), i + j = n → Z l ad D ia C (some (.long (lN (tm (aS nr p) (aR nr p) v n)))) s 5 [(0, .ref (ad 18 0)), (1, .int (nI v)), (2, .long (lN (tm (aS nr p) (aR nr p) v i))), (4, .int (nI i))] [] s := by
    intro j
    induction j with
    | zero =>
      intro i hi
      have e : i = n := by omega
      subst e
      refine bX4_tenTimesMean_5 hC ⟨fun _ => ⟨rfl, rfl⟩, fun h => ?_⟩
      rw [hF.1] at h
      exact absurd (nI_le (Nat.le_refl _) (by omega)) h
    | succ j ih =>
      intro i hi
      have ih := ih (i + 1) (by omega)
      have r1 := (hF.2 i (by omega)).1
      have r2 := (hF.2 i (by omega)).2
      have b1 := (aS_eq hp i).2
      have b2 := (aR_eq hp i).2
      have et : tm (aS nr p) (aR nr p) v (i + 1) = tm (aS nr p) (aR nr p) v i + (v * aR nr p i + (10 - v) * aS nr p i) := rfl
      rw [et] at ih
      refine bX4_tenTimesMean_5 hC ⟨fun h => ?_, fun _ => ⟨vp_in_nI (by omega) (by omega), vp_in_nI (by omega) (by omega), ?_⟩⟩
      · rw [hF.1] at h
        exact absurd h (nI_ge (by omega) (by omega))
      · rw [nI_clamp (by omega), r1, r2, t10 hv, nI_64 (show v < 2 ^ 31 by omega), nI_64 (show aR nr p i < 2 ^ 31 by omega), nI_64 (show aS nr p i < 2 ^ 31 by omega), lN_mul, lN_mul, lN_add, lN_add, nI_1]
        exact ih
  exact lp n 0 (by omega)
/-- the reference's days by one pattern -/
theorem mv_patL {n v mo pat : Nat} (hp : PC nb nr p) (hn : n ≤ 8) (hv : v ≤ 10) : ∀ (j i : Nat) (T : PS) (f w : Int32) (u : OV), i + j = n → MM u nb nr T f (nI (mt (aS nr p) (aR nr p) pat i)) w → LR nr p i T → PI nb nr T → ∃ u2, KN u u2 ∧ u2.1 19 = nI (mt (aS nr p) (aR nr p) pat n) ∧ ∀ (C : ZC) (X : Option Value) (Y : ZS), Zok ad D ia C (d + 5) cX9_findOdds 9 RX9 none → Z l ad D ia C X Y 67 [(0, .ref (ad 20 0)), (1, .int (nI v)), (2, .int (nI n)), (3, .int (nI mo)), (4, .int (nI pat)), (5, .long (lN (wt v pat n))), (7, .int (nI n))] [] (va_up s 20 u2) → Z l ad D ia C X Y 67 [(0, .ref (ad 20 0)), (1, .int (nI v)), (2, .int (nI n)), (3, .int (nI mo)), (4, .int (nI pat)), (5, .long (lN (wt v pat i))), (7, .int (nI i))] [] (va_up s 20 u) := by
  have h8 := hp.1.1.1
  have h4 := hp.1.1.2
  intro j
  induction j with
  | zero =>
    intro i T f w u hi hM hL hT
    have e : i = n := by omega
    subst e
    exact ⟨u, KN.rf u, hM.2.2.2.1, fun C X Y hC hz => hz⟩
  | succ j ih =>
    intro i T f w u hi hM hL hT
    have hb := sh1 (nI pat) (h := i) (by omega)
    rw [bt_tb (by omega)] at hb
    have hnl : ¬ nI n ≤ nI i := nI_ge (by omega) (by omega)
    cases ht : pat.testBit i
    · rw [ht] at hb
      have em : mt (aS nr p) (aR nr p) pat (i + 1) = mt (aS nr p) (aR nr p) pat i + aS nr p i := by
        show _ + (if pat.testBit i = true then _ else _) = _
        rw [ht]
        rfl
      have ew : wt v pat (i + 1) = wt v pat i * (10 - v) := by
        show _ * (if pat.testBit i = true then _ else _) = _
        rw [ht]
        rfl
      have hM1 : MM (setA u 1 (upd (u.2.2 1) 40 (u.2.2 1 40))) nb nr T f (nI (mt (aS nr p) (aR nr p) pat i)) w := by
        rw [upd_id]
        exact hM.now hM.2.1
      have hk1 : KN u (setA u 1 (upd (u.2.2 1) 40 (u.2.2 1 40))) := KN.A _ _ (by omega) (fun _ _ => rfl)
      have hM1b : MM (va_up s 20 (setA u 1 (upd (u.2.2 1) 40 (u.2.2 1 40))) 20) nb nr T f (nI (mt (aS nr p) (aR nr p) pat i)) w := by rw [va_up_self]; exact hM1
      obtain ⟨v2, e2, hM2, hk2⟩ := mv_dayGoes (l := l) (ad := ad) (D := D) (ia := ia) (d := d) hM1b hT
      rw [up_up] at e2
      rw [va_up_self] at hk2
      obtain ⟨hL2, ed⟩ := LR_still f w hL
      rw [ed, (aS_eq hp i).1, nI_add, ← em] at hM2
      obtain ⟨u2, hk3, h19, hz⟩ := ih (i + 1) _ _ _ v2 (by omega) hM2 hL2 (PI_day (q := (T, f, w)) hT)
      rw [ew, ← lN_mul] at hz
      refine ⟨u2, (hk1.tr hk2).tr hk3, h19, fun C X Y hC hz0 => bX9_findOdds_67 hC ⟨fun h => absurd h hnl, fun _ => ⟨fun _ => bX9_findOdds_89 hC ⟨fun _ => ⟨fun _ => ⟨vp_in_nI (n := 40) (by decide) (by decide), vp_in_nI (n := 40) (by decide) (by decide), fun s1 e1 => ⟨va_up s 20 v2, ?_, ?_⟩⟩, fun h => absurd rfl h⟩, fun h => absurd rfl h⟩, fun h => ?_⟩⟩⟩
      · rw [c40, va_up_self, stA_up] at e1
        subst e1
        exact e2
      · rw [t10 hv, nI_1]
        exact hz C X Y hC hz0
      · rw [hb] at h
        exact absurd h (by decide)
    · rw [ht] at hb
      have em : mt (aS nr p) (aR nr p) pat (i + 1) = mt (aS nr p) (aR nr p) pat i + aR nr p i := by
        show _ + (if pat.testBit i = true then _ else _) = _
        rw [ht]
        rfl
      have ew : wt v pat (i + 1) = wt v pat i * v := by
        show _ * (if pat.testBit i = true then _ else _) = _
        rw [ht]
        rfl
      have hM1 := hM.now (hM.2.1.num h8 h4 (j := 0) (by decide) 7)
      have hk1 : KN u (setA u 1 (upd (u.2.2 1) (40 + 0) 7)) := KN.A _ _ (by omega) (fun _ _ => rfl)
      have hM1b : MM (va_up s 20 (setA u 1 (upd (u.2.2 1) (40 + 0) 7)) 20) nb nr (pz T 0 7) f (nI (mt (aS nr p) (aR nr p) pat i)) w := by rw [va_up_self]; exact hM1
      obtain ⟨v2, e2, hM2, hk2⟩ := mv_dayGoes (l := l) (ad := ad) (D := D) (ia := ia) (d := d) hM1b (PI_num hT)
      rw [up_up] at e2
      rw [va_up_self] at hk2
      obtain ⟨hL2, ed⟩ := LR_run f w hL
      have ez : (pz T 0 7).2 1 = T.2 1 := rfl
      rw [ez, ed, (aR_eq hp i).1, nI_add, ← em] at hM2
      obtain ⟨u2, hk3, h19, hz⟩ := ih (i + 1) _ _ _ v2 (by omega) hM2 hL2 (PI_day (q := (pz T 0 7, f, w)) (PI_num hT))
      rw [ew, ← lN_mul] at hz
      refine ⟨u2, (hk1.tr hk2).tr hk3, h19, fun C X Y hC hz0 => bX9_findOdds_67 hC ⟨fun h => absurd h hnl, fun _ => ⟨fun h => ?_, fun _ => bX9_findOdds_89 hC ⟨fun h => absurd h (by decide), fun _ => ⟨fun h => absurd h (by decide), fun _ => ⟨vp_in_nI (n := 40) (by decide) (by decide), fun s1 e1 => ⟨va_up s 20 v2, ?_, ?_⟩⟩⟩⟩⟩⟩⟩
      · rw [hb] at h
        exact absurd rfl h
      · rw [c40, stA_up] at e1
        subst e1
        exact e2
      · rw [nI_64 (by omega), nI_1]
        exact hz C X Y hC hz0
theorem mv_oddsL {s0 : ZS} {nb nr : Nat} {p : PS} {tl : Nat} {tb : Nat → Int32} {flt : Int32} {sn : Nat} {sa : Nat → Nat → Int32} {K : KT} {H : HT} {tn : Int32} (hM : MR (s0 20) nb nr p tl tb flt sn sa K H tn) (hp : PC nb nr p) {n v mo : Nat} (hn : n ≤ 8) (hv : v ≤ 10) (hmo : mo ≤ 9999) : ∀ (k pat : Nat) (u : OV), pat + k = 2 ^ n → KM (s0 20) u → u.2.1 24 = lN (sm (lF (aS nr p) (aR nr p) v mo n) pat) → u.2.1 25 = lN (sm (lG (aS nr p) (aR nr p) v n) pat) → u.2.1 26 = lN (10 ^ n) → ∃ u2, KM (s0 20) u2 ∧ u2.2.1 24 = lN (sm (lF (aS nr p) (aR nr p) v mo n) (2 ^ n)) ∧ u2.2.1 25 = lN (sm (lG (aS nr p) (aR nr p) v n) (2 ^ n)) ∧ u2.2.1 26 = lN (10 ^ n) ∧ ∀ C : ZC, Zok ad D ia C (d + 5) cX9_findOdds 9 RX9 none → Z l ad D ia C none (va_up s 20 u2) 45 [(0, .ref (ad 20 0)), (1, .int (nI v)), (2, .int (nI n)), (3, .int (nI mo)), (4, .int (nI pat))] [] (va_up s 20 u) := by
  have h8 := hp.1.1.1
  have h4 := hp.1.1.2
  have h2 := (pow8 hn).2.2
  intro k
  induction k with
  | zero =>
    intro pat u hpat hk h24 h25 h26
    have e : pat = 2 ^ n := by omega
    subst e
    refine ⟨u, hk, h24, h25, h26, fun C hC => bX9_findOdds_45 hC ⟨fun _ => ⟨rfl, rfl⟩, fun h => ?_⟩⟩
    rw [one_shl n hn] at h
    exact absurd (nI_le (Nat.le_refl _) (by omega)) h
  | succ k ih =>
    intro pat u hpat hk h24 h25 h26
    have hM1 := MR_km hk hM
    obtain ⟨v0, e0, hM0, hk0⟩ := mv_starts (l := l) (ad := ad) (D := D) (ia := ia) (d := d + 4) (s := va_up s 20 u) (nb := nb) (nr := nr) (p := p) (by rw [va_up_self]; exact hM1.1) (by rw [va_up_self]; exact hM1.2.2.2.1) h8 h4
    rw [up_up] at e0
    rw [va_up_self] at hk0
    have hM0b : MM (va_up s 20 v0 20) nb nr p (v0.1 18) (v0.1 19) (v0.1 20) := by rw [va_up_self]; exact hM0
    obtain ⟨v3, e3, hM3, hk3⟩ := mv_startsCounting (l := l) (ad := ad) (D := D) (ia := ia) (d := d + 4) hM0b
    rw [up_up] at e3
    rw [va_up_self] at hk3
    obtain ⟨v4, hk4, h19, hz4⟩ := mv_patL (l := l) (ad := ad) (D := D) (ia := ia) (d := d) (s := s) (n := n) (v := v) (mo := mo) (pat := pat) hp hn hv n 0 p 0 0 v3 (by omega) hM3 ⟨rfl, Or.inl rfl⟩ hp.1
    have hk04 : K0 u v4 := (hk0.tr hk3.1).tr hk4.1
    have hl : v4.2.1 = u.2.1 := hk04.2.2
    have hmt := mt_bnd (fun k => (aS_eq hp k).2) (fun k => (aR_eq hp k).2) pat n
    have hkm4 : KM (s0 20) v4 := hk.tr hk04.M
    have e25 : lN (sm (lG (aS nr p) (aR nr p) v n) pat) + lN (wt v pat n) * (nI (mt (aS nr p) (aR nr p) pat n)).toInt64 = lN (sm (lG (aS nr p) (aR nr p) v n) (pat + 1)) := by
      rw [nI_64 (by omega), lN_mul, lN_add]
      rfl
    have hnl : ¬ (1 : Int32) <<< (nI n &&& 31) ≤ nI pat := by
      rw [one_shl n hn]
      exact nI_ge (by omega) (by omega)
    by_cases c : mt (aS nr p) (aR nr p) pat n ≤ mo
    · have e24 : lN (sm (lF (aS nr p) (aR nr p) v mo n) pat) + lN (wt v pat n) = lN (sm (lF (aS nr p) (aR nr p) v mo n) (pat + 1)) := by
        have : lF (aS nr p) (aR nr p) v mo n pat = wt v pat n := if_pos c
        rw [lN_add, ← this]
        rfl
      obtain ⟨u2, a1, a2, a3, a4, hz⟩ := ih (pat + 1) (setL (setL v4 24 (lN (sm (lF (aS nr p) (aR nr p) v mo n) (pat + 1)))) 25 (lN (sm (lG (aS nr p) (aR nr p) v n) (pat + 1)))) (by omega) ((hkm4.tr (KM.L _ _ _)).tr (KM.L _ _ _)) (by rw [setL_n _ _ (by decide), setL_s]) (by rw [setL_s]) (by rw [setL_n _ _ (by decide), setL_n _ _ (by decide), hl]; exact h26)
      refine ⟨u2, a1, a2, a3, a4, fun C hC => bX9_findOdds_45 hC ⟨fun h => absurd h hnl, fun _ => ⟨_, e0, _, e3, hz4 C _ _ hC (bX9_findOdds_67 hC ⟨fun _ => ⟨fun h => ?_, fun _ => fun s1 es1 => fun s2 es2 => ?_⟩, fun h => absurd (nI_le (Nat.le_refl _) (by omega)) h⟩)⟩⟩⟩
      · rw [va_up_self, h19] at h
        exact absurd h (nI_nlt c (by omega))
      · rw [va_up_self, hl, h24, e24, stL_up] at es1
        subst es1
        have e1 : (va_up s 20 (setL v4 24 (lN (sm (lF (aS nr p) (aR nr p) v mo n) (pat + 1)))) 20).2.1 25 = lN (sm (lG (aS nr p) (aR nr p) v n) pat) := by
          rw [va_up_self, setL_n _ _ (by decide), hl]
          exact h25
        have e2 : (va_up s 20 (setL v4 24 (lN (sm (lF (aS nr p) (aR nr p) v mo n) (pat + 1)))) 20).1 19 = nI (mt (aS nr p) (aR nr p) pat n) := by
          rw [va_up_self]
          exact h19
        rw [e1, e2, e25, stL_up] at es2
        subst es2
        rw [nI_1]
        exact hz C hC
    · have e24 : lN (sm (lF (aS nr p) (aR nr p) v mo n) pat) + 0 = lN (sm (lF (aS nr p) (aR nr p) v mo n) (pat + 1)) := by
        have : lF (aS nr p) (aR nr p) v mo n pat = 0 := if_neg c
        have e2 : sm (lF (aS nr p) (aR nr p) v mo n) (pat + 1) = sm (lF (aS nr p) (aR nr p) v mo n) pat + lF (aS nr p) (aR nr p) v mo n pat := rfl
        rw [e2, this]
        exact Int64.add_zero _
      obtain ⟨u2, a1, a2, a3, a4, hz⟩ := ih (pat + 1) (setL (setL v4 24 (lN (sm (lF (aS nr p) (aR nr p) v mo n) (pat + 1)))) 25 (lN (sm (lG (aS nr p) (aR nr p) v n) (pat + 1)))) (by omega) ((hkm4.tr (KM.L _ _ _)).tr (KM.L _ _ _)) (by rw [setL_n _ _ (by decide), setL_s]) (by rw [setL_s]) (by rw [setL_n _ _ (by decide), setL_n _ _ (by decide), hl]; exact h26)
      refine ⟨u2, a1, a2, a3, a4, fun C hC => bX9_findOdds_45 hC ⟨fun h => absurd h hnl, fun _ => ⟨_, e0, _, e3, hz4 C _ _ hC (bX9_findOdds_67 hC ⟨fun _ => ⟨fun _ => fun s1 es1 => fun s2 es2 => ?_, fun h => ?_⟩, fun h => absurd (nI_le (Nat.le_refl _) (by omega)) h⟩)⟩⟩⟩
      · rw [va_up_self, hl, h24, e24, stL_up] at es1
        subst es1
        have e1 : (va_up s 20 (setL v4 24 (lN (sm (lF (aS nr p) (aR nr p) v mo n) (pat + 1)))) 20).2.1 25 = lN (sm (lG (aS nr p) (aR nr p) v n) pat) := by
          rw [va_up_self, setL_n _ _ (by decide), hl]
          exact h25
        have e2 : (va_up s 20 (setL v4 24 (lN (sm (lF (aS nr p) (aR nr p) v mo n) (pat + 1)))) 20).1 19 = nI (mt (aS nr p) (aR nr p) pat n) := by
          rw [va_up_self]
          exact h19
        rw [e1, e2, e25, stL_up] at es2
        subst es2
        rw [nI_1]
        exact hz C hC
      · rw [va_up_self, h19] at h
        exact absurd (nI_lt (by omega) (by omega)) h
theorem mv_findOdds {s0 : ZS} {nb nr : Nat} {p : PS} {tl : Nat} {tb : Nat → Int32} {flt : Int32} {sn : Nat} {sa : Nat → Nat → Int32} {K : KT} {H : HT} {tn : Int32} (hM : MR (s0 20) nb nr p tl tb flt sn sa K H tn) (hp : PC nb nr p) {n v mo : Nat} (hn : n ≤ 8) (hv : v ≤ 10) (hmo : mo ≤ 9999) (hk : KM (s0 20) (s 20)) : ∃ u2, KM (s0 20) u2 ∧ u2.2.1 24 = lN (sm (lF (aS nr p) (aR nr p) v mo n) (2 ^ n)) ∧ u2.2.1 25 = lN (sm (lG (aS nr p) (aR nr p) v n) (2 ^ n)) ∧ u2.2.1 26 = lN (10 ^ n) ∧ Ev l ad D ia (d + 5) mX9_findOdds [.ref (ad 20 0), .int (nI v), .int (nI n), .int (nI mo)] s none (va_up s 20 u2) := by
  have lp : ∀ (k i : Nat) (u : OV), i + k = n → KM (s0 20) u → u.2.1 24 = 0 → u.2.1 25 = 0 → u.2.1 26 = lN (10 ^ i) → ∃ u2, KM (s0 20) u2 ∧ u2.2.1 24 = lN (sm (lF (aS nr p) (aR nr p) v mo n) (2 ^ n)) ∧ u2.2.1 25 = lN (sm (lG (aS nr p) (aR nr p) v n) (2 ^ n)) ∧ u2.2.1 26 = lN (10 ^ n) ∧ ∀ C : ZC, Zok ad D ia C (d + 5) cX9_findOdds 9 RX9 none → Z l ad D ia C none (va_up s 20 u2) 18 [(0, .ref (ad 20 0)), (1, .int (nI v)), (2, .int (nI n)), (3, .int (nI mo)), (4, .int (nI i))] [] (va_up s 20 u) := by
    intro k
    induction k with
    | zero =>
      intro i u hi hk h24 h25 h26
      have e : i = n := by omega
      subst e
      obtain ⟨u2, a1, a2, a3, a4, hz⟩ := mv_oddsL (l := l) (ad := ad) (D := D) (ia := ia) (d := d) (s := s) hM hp hn hv hmo (2 ^ i) 0 u (by omega) hk h24 h25 h26
      exact ⟨u2, a1, a2, a3, a4, fun C hC => bX9_findOdds_18 hC ⟨fun _ => hz C hC, fun h => absurd (nI_le (Nat.le_refl _) (by omega)) h⟩⟩
    | succ k ih =>
      intro i u hi hk h24 h25 h26
      have e10 : u.2.1 26 * 10 = lN (10 ^ (i + 1)) := by
        rw [h26]
        show lN (10 ^ i) * lN 10 = _
        rw [lN_mul, Nat.pow_succ]
      obtain ⟨u2, a1, a2, a3, a4, hz⟩ := ih (i + 1) (setL u 26 (lN (10 ^ (i + 1)))) (by omega) (hk.tr (KM.L _ _ _)) (by rw [setL_n _ _ (by decide)]; exact h24) (by rw [setL_n _ _ (by decide)]; exact h25) (by rw [setL_s])
      refine ⟨u2, a1, a2, a3, a4, fun C hC => bX9_findOdds_18 hC ⟨fun h => absurd h (nI_ge (by omega) (by omega)), fun _ => fun s1 e1 => ?_⟩⟩
      rw [va_up_self, e10, stL_up] at e1
      subst e1
      rw [nI_1]
      exact hz C hC
  obtain ⟨u2, a1, a2, a3, a4, hz⟩ := lp n 0 (setL (setL (setL (s 20) 24 0) 25 0) 26 1) (by omega) (((hk.tr (KM.L _ _ _)).tr (KM.L _ _ _)).tr (KM.L _ _ _)) (by rw [setL_n _ _ (by decide), setL_n _ _ (by decide), setL_s]) (by rw [setL_n _ _ (by decide), setL_s]) (by rw [setL_s]; rfl)
  refine ⟨u2, a1, a2, a3, a4, eX9_findOdds (fun C hC => fun s1 e1 => fun s2 e2 => fun s3 e3 => ?_)⟩
  have e1 : s1 = va_up s 20 (setL (s 20) 24 0) := e1
  subst e1
  rw [stL_up] at e2
  subst e2
  rw [stL_up] at e3
  subst e3
  exact hz C hC
theorem K24.C {s s2 : ZS} (h : K24 s s2) : KC s s2 := ⟨fun o ho => h o (by omega) (by omega) (by omega), by rw [h 0 (by decide) (by decide) (by decide)], by rw [h 0 (by decide) (by decide) (by decide)]⟩
theorem op_luck (hR : RR s) (x y z t : Int32) : OpL l ad D ia s mX8_luck mX9_luck [.int x, .int y, .int z, .int t] := by
  obtain ⟨nb, nr, p, tl, tb, flt, sn, sa, K, H, tn, hG, hC, hM⟩ := hR
  have hbad : RR s := ⟨nb, nr, p, tl, tb, flt, sn, sa, K, H, tn, hG, hC, hM⟩
  have hp := hG.1.1
  have o1 := ev_out0 (l := l) (ad := ad) (D := D) (ia := ia) (d := 8) (s := s) (n := 10) x (y := 10) rfl (by decide)
  have i1 := fun s2 => mv_in0 (l := l) (ad := ad) (D := D) (ia := ia) (d := 8) (s := s2) x (n := 11) (z := 0) (c := 10) (by decide) (by decide)
  have o2 := ev_out0 (l := l) (ad := ad) (D := D) (ia := ia) (d := 8) (s := s) (n := 8) y (y := 8) rfl (by decide)
  have i2 := fun s2 => mv_in0 (l := l) (ad := ad) (D := D) (ia := ia) (d := 8) (s := s2) y (n := 9) (z := 0) (c := 8) (by decide) (by decide)
  have o3 := ev_out0 (l := l) (ad := ad) (D := D) (ia := ia) (d := 8) (s := s) (n := 9999) z (y := 9999) rfl (by decide)
  have i3 := fun s2 => mv_in0 (l := l) (ad := ad) (D := D) (ia := ia) (d := 8) (s := s2) z (n := 10000) (z := 0) (c := 9999) (by decide) (by decide)
  have o4 := ev_out0 (l := l) (ad := ad) (D := D) (ia := ia) (d := 8) (s := s) (n := 1) t (y := 1) rfl (by decide)
  have i4 := fun s2 => mv_isPart (l := l) (ad := ad) (D := D) (ia := ia) (d := 7) (s := s2) t
  by_cases cx : inN x 11 = true
  · rw [cx] at o1 i1
    by_cases cy : inN y 9 = true
    · rw [cy] at o2 i2
      by_cases cz : inN z 10000 = true
      · rw [cz] at o3 i3
        by_cases ct : inN t 2 = true
        · rw [ct] at o4 i4
          obtain ⟨v, hv, rfl⟩ := inN_nI cx
          obtain ⟨n, hn, rfl⟩ := inN_nI cy
          obtain ⟨mo, hmo, rfl⟩ := inN_nI cz
          have hpw := pow8 (n := n) (by omega)
          have hle := lF_le (aS nr p) (aR nr p) (v := v) (by omega) mo n
          obtain ⟨s2, hk2, hF2, e2⟩ := ev_foresee (l := l) (ad := ad) (D := D) (ia := ia) (d := 3) (s := s) hG.1 (n := n) (by omega) hC.1
          have hww := ev_ww (l := l) (ad := ad) (D := D) (ia := ia) (d := 8) (s := s2) (v := v) (mo := mo) hG.1.C (by omega) (by omega) (by omega) hF2
          have hpt := ev_part (l := l) (ad := ad) (D := D) (ia := ia) (d := 8) (s := s2) (nu := sm (lF (aS nr p) (aR nr p) v mo n) (2 ^ n)) (de := 10 ^ n) hpw.2.1 (by omega) (by omega) t
          have h20 : s2 20 = s 20 := hk2 20 (by decide) (by decide) (by decide)
          obtain ⟨u3, hk3, a24, a25, a26, e3⟩ := mv_findOdds (l := l) (ad := ad) (D := D) (ia := ia) (d := 3) (s := s2) hM hG.1.C (n := n) (v := v) (mo := mo) (by omega) (by omega) (by omega) (KM.eq h20)
          have htd := mv_told (l := l) (ad := ad) (D := D) (ia := ia) (d := 7) (s := va_up s2 20 u3) (nu := sm (lF (aS nr p) (aR nr p) v mo n) (2 ^ n)) (de := 10 ^ n) hpw.2.1 (by omega) (by omega) t
          refine ⟨.long (frX (sm (lF (aS nr p) (aR nr p) v mo n) (2 ^ n)) (10 ^ n) t), _, _, eX8_luck (fun C hZ => ⟨_, _, o1, fun h => absurd rfl h, fun _ => ⟨_, _, o2, fun h => absurd rfl h, fun _ => ⟨_, _, o3, fun h => absurd rfl h, fun _ => ⟨_, _, o4, fun _ => ⟨s2, e2, ?_⟩, fun h => absurd rfl h⟩⟩⟩⟩), eX9_luck ⟨_, _, i1 _, fun h => absurd h (by decide), fun _ => ⟨_, _, i2 _, fun h => absurd h (by decide), fun _ => ⟨_, _, i3 _, fun h => absurd h (by decide), fun _ => ⟨_, _, i4 _, fun _ => ⟨_, e3, frX (sm (lF (aS nr p) (aR nr p) v mo n) (2 ^ n)) (10 ^ n) t, va_up s2 20 u3, ?_, rfl, rfl⟩, fun h => absurd h (by decide)⟩⟩⟩⟩, RR_sc hG hC hM hk2.C hk3⟩
          · have lp : ∀ (k i : Nat), i + k = n → Z l ad D ia C (some (.long (frX (sm (lF (aS nr p) (aR nr p) v mo n) (2 ^ n)) (10 ^ n) t))) s2 67 [(0, .ref (ad 0 0)), (1, .int (nI v)), (2, .int (nI n)), (3, .int (nI mo)), (4, .int t), (5, .long (lN (10 ^ i))), (7, .int (nI i))] [] s2 := by
              intro k
              induction k with
              | zero =>
                intro i hi
                have e : i = n := by omega
                subst e
                exact bX8_luck_67 hZ ⟨fun _ => ⟨_, _, hww, _, _, hpt, rfl, rfl⟩, fun h => absurd (nI_le (Nat.le_refl _) (by omega)) h⟩
              | succ k ih =>
                intro i hi
                have ih := ih (i + 1) (by omega)
                refine bX8_luck_67 hZ ⟨fun h => absurd h (nI_ge (by omega) (by omega)), fun _ => ?_⟩
                have e10 : lN (10 ^ i) * 10 = lN (10 ^ (i + 1)) := by
                  show lN (10 ^ i) * lN 10 = _
                  rw [lN_mul, Nat.pow_succ]
                rw [e10, nI_1]
                exact ih
            exact lp n 0 (by omega)
          · rw [va_up_self, a24, a26]
            exact htd
        · rw [bool_f ct] at o4 i4
          exact ⟨.long (-1), _, _, eX8_luck (fun C hZ => ⟨_, _, o1, fun h => absurd rfl h, fun _ => ⟨_, _, o2, fun h => absurd rfl h, fun _ => ⟨_, _, o3, fun h => absurd rfl h, fun _ => ⟨_, _, o4, fun h => absurd h (by decide), fun _ => ⟨rfl, rfl⟩⟩⟩⟩⟩), eX9_luck ⟨_, _, i1 _, fun h => absurd h (by decide), fun _ => ⟨_, _, i2 _, fun h => absurd h (by decide), fun _ => ⟨_, _, i3 _, fun h => absurd h (by decide), fun _ => ⟨_, _, i4 _, fun h => absurd rfl h, fun _ => ⟨rfl, rfl⟩⟩⟩⟩⟩, hbad⟩
      · rw [bool_f cz] at o3 i3
        exact ⟨.long (-1), _, _, eX8_luck (fun C hZ => ⟨_, _, o1, fun h => absurd rfl h, fun _ => ⟨_, _, o2, fun h => absurd rfl h, fun _ => ⟨_, _, o3, fun _ => ⟨rfl, rfl⟩, fun h => absurd h (by decide)⟩⟩⟩), eX9_luck ⟨_, _, i1 _, fun h => absurd h (by decide), fun _ => ⟨_, _, i2 _, fun h => absurd h (by decide), fun _ => ⟨_, _, i3 _, fun _ => ⟨rfl, rfl⟩, fun h => absurd rfl h⟩⟩⟩, hbad⟩
    · rw [bool_f cy] at o2 i2
      exact ⟨.long (-1), _, _, eX8_luck (fun C hZ => ⟨_, _, o1, fun h => absurd rfl h, fun _ => ⟨_, _, o2, fun _ => ⟨rfl, rfl⟩, fun h => absurd h (by decide)⟩⟩), eX9_luck ⟨_, _, i1 _, fun h => absurd h (by decide), fun _ => ⟨_, _, i2 _, fun _ => ⟨rfl, rfl⟩, fun h => absurd rfl h⟩⟩, hbad⟩
  · rw [bool_f cx] at o1 i1
    exact ⟨.long (-1), _, _, eX8_luck (fun C hZ => ⟨_, _, o1, fun _ => ⟨rfl, rfl⟩, fun h => absurd h (by decide)⟩), eX9_luck ⟨_, _, i1 _, fun _ => ⟨rfl, rfl⟩, fun h => absurd rfl h⟩, hbad⟩
theorem op_mean (hR : RR s) (x y t : Int32) : OpL l ad D ia s mX8_mean mX9_mean [.int x, .int y, .int t] := by
  obtain ⟨nb, nr, p, tl, tb, flt, sn, sa, K, H, tn, hG, hC, hM⟩ := hR
  have hbad : RR s := ⟨nb, nr, p, tl, tb, flt, sn, sa, K, H, tn, hG, hC, hM⟩
  have hp := hG.1.1
  have o1 := ev_out0 (l := l) (ad := ad) (D := D) (ia := ia) (d := 8) (s := s) (n := 10) x (y := 10) rfl (by decide)
  have i1 := fun s2 => mv_in0 (l := l) (ad := ad) (D := D) (ia := ia) (d := 8) (s := s2) x (n := 11) (z := 0) (c := 10) (by decide) (by decide)
  have o2 := ev_out0 (l := l) (ad := ad) (D := D) (ia := ia) (d := 8) (s := s) (n := 8) y (y := 8) rfl (by decide)
  have i2 := fun s2 => mv_in0 (l := l) (ad := ad) (D := D) (ia := ia) (d := 8) (s := s2) y (n := 9) (z := 0) (c := 8) (by decide) (by decide)
  have o4 := ev_out0 (l := l) (ad := ad) (D := D) (ia := ia) (d := 8) (s := s) (n := 1) t (y := 1) rfl (by decide)
  have i4 := fun s2 => mv_isPart (l := l) (ad := ad) (D := D) (ia := ia) (d := 7) (s := s2) t
  by_cases cx : inN x 11 = true
  · rw [cx] at o1 i1
    by_cases cy : inN y 9 = true
    · rw [cy] at o2 i2
      by_cases ct : inN t 2 = true
      · rw [ct] at o4 i4
        obtain ⟨v, hv, rfl⟩ := inN_nI cx
        obtain ⟨n, hn, rfl⟩ := inN_nI cy
        have hpw := pow8 (n := n) (by omega)
        have hms := M_sum (aS nr p) (aR nr p) (v := v) (by omega) n
        have htb := tm_bnd (fun k => (aS_eq hG.1.C k).2) (fun k => (aR_eq hG.1.C k).2) (v := v) (by omega) n
        have hle : sm (lG (aS nr p) (aR nr p) v n) (2 ^ n) < 2 ^ 62 := by
          have h1 : 10 ^ n * tm (aS nr p) (aR nr p) v n ≤ 100000000 * 123840 := Nat.mul_le_mul hpw.1 (by omega)
          have h2 : 10 * sm (lG (aS nr p) (aR nr p) v n) (2 ^ n) = 10 ^ n * tm (aS nr p) (aR nr p) v n := hms
          omega
        have hlow := low_eq (a := sm (lG (aS nr p) (aR nr p) v n) (2 ^ n)) (b := 10 ^ n) (c := tm (aS nr p) (aR nr p) v n) (d := 10) hpw.2.1 (by decide) (by rw [Nat.mul_comm]; exact hms)
        have hfr : frX (tm (aS nr p) (aR nr p) v n) 10 t = frX (sm (lG (aS nr p) (aR nr p) v n) (2 ^ n)) (10 ^ n) t := by
          unfold frX
          rw [hlow.1, hlow.2]
        obtain ⟨s2, hk2, hF2, e2⟩ := ev_foresee (l := l) (ad := ad) (D := D) (ia := ia) (d := 3) (s := s) hG.1 (n := n) (by omega) hC.1
        have htm := ev_tm (l := l) (ad := ad) (D := D) (ia := ia) (d := 8) (s := s2) (v := v) hG.1.C (by omega) (by omega) hF2
        have hpt := ev_part (l := l) (ad := ad) (D := D) (ia := ia) (d := 8) (s := s2) (nu := tm (aS nr p) (aR nr p) v n) (de := 10) (by decide) (by omega) (by decide) t
        rw [hfr] at hpt
        have h20 : s2 20 = s 20 := hk2 20 (by decide) (by decide) (by decide)
        obtain ⟨u3, hk3, a24, a25, a26, e3⟩ := mv_findOdds (l := l) (ad := ad) (D := D) (ia := ia) (d := 3) (s := s2) hM hG.1.C (n := n) (v := v) (mo := 0) (by omega) (by omega) (by omega) (KM.eq h20)
        have htd := mv_told (l := l) (ad := ad) (D := D) (ia := ia) (d := 7) (s := va_up s2 20 u3) (nu := sm (lG (aS nr p) (aR nr p) v n) (2 ^ n)) (de := 10 ^ n) hpw.2.1 hle (by omega) t
        refine ⟨.long (frX (sm (lG (aS nr p) (aR nr p) v n) (2 ^ n)) (10 ^ n) t), _, _, eX8_mean ⟨_, _, o1, fun h => absurd rfl h, fun _ => ⟨_, _, o2, fun h => absurd rfl h, fun _ => ⟨_, _, o4, fun _ => ⟨s2, e2, _, _, htm, _, _, hpt, rfl, rfl⟩, fun h => absurd rfl h⟩⟩⟩, eX9_mean ⟨_, _, i1 _, fun h => absurd h (by decide), fun _ => ⟨_, _, i2 _, fun h => absurd h (by decide), fun _ => ⟨_, _, i4 _, fun _ => ⟨_, e3, frX (sm (lG (aS nr p) (aR nr p) v n) (2 ^ n)) (10 ^ n) t, va_up s2 20 u3, ?_, rfl, rfl⟩, fun h => absurd h (by decide)⟩⟩⟩, RR_sc hG hC hM hk2.C hk3⟩
        rw [va_up_self, a25, a26]
        exact htd
      · rw [bool_f ct] at o4 i4
        exact ⟨.long (-1), _, _, eX8_mean ⟨_, _, o1, fun h => absurd rfl h, fun _ => ⟨_, _, o2, fun h => absurd rfl h, fun _ => ⟨_, _, o4, fun h => absurd h (by decide), fun _ => ⟨rfl, rfl⟩⟩⟩⟩, eX9_mean ⟨_, _, i1 _, fun h => absurd h (by decide), fun _ => ⟨_, _, i2 _, fun h => absurd h (by decide), fun _ => ⟨_, _, i4 _, fun h => absurd rfl h, fun _ => ⟨rfl, rfl⟩⟩⟩⟩, hbad⟩
    · rw [bool_f cy] at o2 i2
      exact ⟨.long (-1), _, _, eX8_mean ⟨_, _, o1, fun h => absurd rfl h, fun _ => ⟨_, _, o2, fun _ => ⟨rfl, rfl⟩, fun h => absurd h (by decide)⟩⟩, eX9_mean ⟨_, _, i1 _, fun h => absurd h (by decide), fun _ => ⟨_, _, i2 _, fun _ => ⟨rfl, rfl⟩, fun h => absurd rfl h⟩⟩, hbad⟩
  · rw [bool_f cx] at o1 i1
    exact ⟨.long (-1), _, _, eX8_mean ⟨_, _, o1, fun _ => ⟨rfl, rfl⟩, fun h => absurd h (by decide)⟩, eX9_mean ⟨_, _, i1 _, fun _ => ⟨rfl, rfl⟩, fun h => absurd rfl h⟩, hbad⟩
end LCR
