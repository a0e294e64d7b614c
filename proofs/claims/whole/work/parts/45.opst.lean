/-- all is as seen -/
def ag (p : PS) (sa : Nat → Nat → Int32) : Nat → Nat → Bool
  | 0, _ => true
  | k + 1, i => decide ((itp (bk (sa i 0)) p (bk (sa i 1))).1 = sa i 2) && ag p sa k (i + 1)
theorem ag_iff (p : PS) (sa : Nat → Nat → Int32) : ∀ (k i : Nat), ag p sa k i = true ↔ ∀ j, i ≤ j → j < i + k → (itp (bk (sa j 0)) p (bk (sa j 1))).1 = sa j 2
  | 0, i => ⟨fun _ j h1 h2 => absurd h2 (by omega), fun _ => rfl⟩
  | k + 1, i => by
    have ih := ag_iff p sa k (i + 1)
    show (decide _ && ag p sa k (i + 1)) = true ↔ _
    rw [Bool.and_eq_true, decide_eq_true_iff, ih]
    constructor
    · intro h j h1 h2
      by_cases e : j = i
      · subst e
        exact h.1
      · exact h.2 j (by omega) (by omega)
    · intro h
      exact ⟨h i (by omega) (by omega), fun j h1 h2 => h j (by omega) (by omega)⟩
theorem days_succ (nr : Nat) : ∀ (n : Nat) (q : PS × Int32 × Int32), days nr (n + 1) q = day nr (days nr n q)
  | 0, _ => rfl
  | n + 1, q => days_succ nr n (day nr q)
theorem SB.g {nr sn : Nat} {sa : Nat → Nat → Int32} (h : SB nr sn sa) (h4 : nr ≤ 4) {i : Nat} (hi : i < sn) : (bk (sa i 0) ≤ 20 ∧ sa i 0 = nI (bk (sa i 0))) ∧ bk (sa i 1) < nr ∧ sa i 1 = nI (bk (sa i 1)) := by
  obtain ⟨⟨n, -, hn, e0⟩, r, hr, e1⟩ := h.2 i hi
  have a0 : bk (nI n) = n := nI_clamp (by omega)
  have a1 : bk (nI r) = r := nI_clamp (by omega)
  rw [e0, e1, a0, a1]
  exact ⟨⟨hn, rfl⟩, hr, rfl⟩
theorem mx_M {M b : Nat} (hM : M ≤ 21) (hb : b ≤ 20) : ∃ M2, M ≤ M2 ∧ b < M2 ∧ M2 ≤ 21 ∧ mmax (nI M - 1) (nI b) = nI M2 - 1 := by
  unfold mmax
  by_cases c : nI M - 1 < nI b
  · rw [if_pos c]
    refine ⟨b + 1, ?_, by omega, by omega, (nI_pred b).symm⟩
    rw [Int32.lt_iff_toInt_lt, pred_toInt (by omega), nI_toInt (by omega)] at c
    omega
  · rw [if_neg c]
    refine ⟨M, by omega, ?_, hM, rfl⟩
    rw [Int32.lt_iff_toInt_lt, pred_toInt (by omega), nI_toInt (by omega)] at c
    omega
theorem ltM {M n : Nat} (hM : M < 2 ^ 31) (hn : n < 2 ^ 31) : nI M - 1 < nI n ↔ M ≤ n := by
  rw [Int32.lt_iff_toInt_lt, pred_toInt hM, nI_toInt hn]
  omega
section OST
variable {l : Launch} {ad : ZA} {D : va_G} {ia : Nat → ClassId} {d nb nr r b o o1 sn : Nat} {s : ZS} {p : PS} {f m w : Int32} {sa : Nat → Nat → Int32}
theorem ev_lastL (hS : SR (s 7) sn sa) (hB : SB nr sn sa) (h4 : nr ≤ 4) : ∀ (k i M : Nat), i + k = sn → M ≤ 21 → ∃ M2, M ≤ M2 ∧ M2 ≤ 21 ∧ (∀ j, i ≤ j → j < sn → bk (sa j 0) < M2) ∧ ∀ C : ZC, Zok ad D ia C (d + 1) cX6_lastBehind 3 RX6 (some .int) → Z l ad D ia C (some (.int (nI M2 - 1))) s 4 [(0, .ref (ad 7 0)), (1, .int (nI M - 1)), (2, .int (nI i))] [] s := by
  have h6 := hB.1
  intro k
  induction k with
  | zero =>
    intro i M hi hM
    refine ⟨M, Nat.le_refl _, hM, fun j h1 h2 => absurd h2 (by omega), fun C hC => bX6_lastBehind_4 (o := 7) rfl hC ⟨fun _ => ⟨rfl, rfl⟩, fun h => ?_⟩⟩
    rw [hS.1] at h
    exact absurd (nI_le (by omega) (by omega)) h
  | succ k ih =>
    intro i M hi hM
    have g := hB.g h4 (i := i) (by omega)
    obtain ⟨M1, a1, a2, a3, a4⟩ := mx_M hM g.1.1
    obtain ⟨M2, b1, b2, b3, hz⟩ := ih (i + 1) M1 (by omega) a3
    refine ⟨M2, by omega, b2, fun j h1 h2 => ?_, fun C hC => bX6_lastBehind_4 (o := 7) rfl hC ⟨fun h => ?_, fun _ => ⟨vp_in_nI (by omega) (by omega), ?_⟩⟩⟩
    · by_cases e : j = i
      · subst e
        omega
      · exact b3 j (by omega) h2
    · rw [hS.1] at h
      exact absurd h (nI_ge (by omega) (by omega))
    · rw [nI_clamp (by omega), hS.2 i 0 (by omega) (by omega), g.1.2, a4, nI_1]
      exact hz C hC
theorem ev_agL (hS : SR (s 7) sn sa) (hB : SB nr sn sa) (hp : PI nb nr p) {M : Nat} (hM : M ≤ 21) (hm : ∀ j, j < sn → bk (sa j 0) < M) : ∀ (k n : Nat) (v : OV), n + k = M → HR v nb nr (days nr n (p, f, w)).1 (days nr n (p, f, w)).2.1 (days nr n (p, f, w)).2.2 → (∀ j, j < sn → bk (sa j 0) < n → (itp (bk (sa j 0)) p (bk (sa j 1))).1 = sa j 2) → ∃ v2, ∀ C : ZC, Zok ad D ia C (d + 5) cX6_agreeWith 5 RX6 (some .boolean) → Z l ad D ia C (some (.int (b1 (ag p sa sn 0)))) (va_up s 2 v2) 7 [(0, .ref (ad 7 0)), (1, .ref (ad 2 0)), (2, .int (nI M - 1)), (3, .int (nI n))] [] (va_up s 2 v) := by
  have h6 := hB.1
  have h4 := hp.1.2
  have e7 : ∀ v, va_up s 2 v 7 = s 7 := fun v => va_up_ne _ _ (by decide)
  intro k
  induction k with
  | zero =>
    intro n v hn hH hj
    have e : ag p sa sn 0 = true := (ag_iff p sa sn 0).mpr (fun j _ h2 => hj j (by omega) (by have := hm j (by omega); omega))
    rw [e]
    exact ⟨v, fun C hC => bX6_agreeWith_7 (o := 7) rfl (o1 := 2) rfl hC ⟨fun _ => ⟨rfl, rfl⟩, fun h => absurd ((ltM (by omega) (by omega)).mpr (by omega)) h⟩⟩
  | succ k ih =>
    intro n v hn hH hj
    have inner : ∀ (c i : Nat), i + c = sn → (∀ j, j < i → bk (sa j 0) = n → (itp (bk (sa j 0)) p (bk (sa j 1))).1 = sa j 2) → ∃ v2, ∀ C : ZC, Zok ad D ia C (d + 5) cX6_agreeWith 5 RX6 (some .boolean) → Z l ad D ia C (some (.int (b1 (ag p sa sn 0)))) (va_up s 2 v2) 15 [(0, .ref (ad 7 0)), (1, .ref (ad 2 0)), (2, .int (nI M - 1)), (3, .int (nI n)), (4, .int (nI i))] [] (va_up s 2 v) := by
      intro c
      induction c with
      | zero =>
        intro i hi hji
        have hH2 : HR (va_up s 2 v 2) nb nr (days nr n (p, f, w)).1 (days nr n (p, f, w)).2.1 (days nr n (p, f, w)).2.2 := by rw [va_up_self]; exact hH
        obtain ⟨v1, hb1, hT⟩ := ev_passDay (l := l) (ad := ad) (D := D) (ia := ia) (d := d) (o := 2) rfl hH2 (PI_days n hp)
        rw [up_up] at hb1
        have es : day nr ((days nr n (p, f, w)).1, (days nr n (p, f, w)).2.1, (days nr n (p, f, w)).2.2) = days nr (n + 1) (p, f, w) := (days_succ nr n (p, f, w)).symm
        rw [es] at hT
        obtain ⟨v2, hz⟩ := ih (n + 1) v1 (by omega) hT (fun j h1 h2 => by
          by_cases e : bk (sa j 0) = n
          · exact hji j (by omega) e
          · exact hj j h1 (by omega))
        refine ⟨v2, fun C hC => bX6_agreeWith_15 (o := 7) rfl (o1 := 2) rfl hC ⟨fun _ => ⟨_, hb1, ?_⟩, fun h => ?_⟩⟩
        · rw [nI_1]
          exact hz C hC
        · rw [e7, hS.1] at h
          exact absurd (nI_le (by omega) (by omega)) h
      | succ c ih2 =>
        intro i hi hji
        have g := hB.g h4 (i := i) (by omega)
        have hnl : ¬ (va_up s 2 v 7).1 0 ≤ nI i := by
          rw [e7, hS.1]
          exact nI_ge (by omega) (by omega)
        have q0 : (va_up s 2 v 7).2.2 1 (nI i).toNatClampNeg = nI (bk (sa i 0)) := by
          rw [e7, nI_clamp (by omega), hS.2 i 0 (by omega) (by omega), ← g.1.2]
        have q1 : (va_up s 2 v 7).2.2 2 (nI i).toNatClampNeg = nI (bk (sa i 1)) := by
          rw [e7, nI_clamp (by omega), hS.2 i 1 (by omega) (by omega), ← g.2.2]
        have q2 : (va_up s 2 v 7).2.2 3 (nI i).toNatClampNeg = sa i 2 := by
          rw [e7, nI_clamp (by omega), hS.2 i 2 (by omega) (by omega)]
        have q3 : (va_up s 2 v 2).2.2 6 (nI (bk (sa i 1))).toNatClampNeg = (itp n p (bk (sa i 1))).1 := by
          rw [va_up_self, nI_clamp (by omega), hH.g6 g.2.1, (days_it nr g.2.1 n (p, f, w)).1]
        by_cases c1 : bk (sa i 0) = n
        · by_cases c2 : (itp n p (bk (sa i 1))).1 = sa i 2
          · obtain ⟨v2, hz⟩ := ih2 (i + 1) (by omega) (fun j h1 h2 => by
              by_cases e : j = i
              · subst e
                rw [c1]
                exact c2
              · exact hji j (by omega) h2)
            refine ⟨v2, fun C hC => bX6_agreeWith_15 (o := 7) rfl (o1 := 2) rfl hC ⟨fun h => absurd h hnl, fun _ => ⟨vp_in_nI (by omega) (by omega), fun h => ?_, fun _ => ⟨vp_in_nI (by omega) (by omega), ?_, vp_in_nI (by omega) (by omega), fun _ => ?_, fun h => ?_⟩⟩⟩⟩
            · rw [q0, c1] at h
              exact absurd rfl h
            · rw [q1]
              exact vp_in_nI (by omega) (by omega)
            · rw [nI_1]
              exact hz C hC
            · rw [q1, q2, q3] at h
              exact absurd c2 h
          · have e : ag p sa sn 0 = false := bool_f (fun h => c2 (by
              have := (ag_iff p sa sn 0).mp h i (by omega) (by omega)
              rw [c1] at this
              exact this))
            rw [e]
            refine ⟨v, fun C hC => bX6_agreeWith_15 (o := 7) rfl (o1 := 2) rfl hC ⟨fun h => absurd h hnl, fun _ => ⟨vp_in_nI (by omega) (by omega), fun h => ?_, fun _ => ⟨vp_in_nI (by omega) (by omega), ?_, vp_in_nI (by omega) (by omega), fun h => ?_, fun _ => ⟨rfl, rfl⟩⟩⟩⟩⟩
            · rw [q0, c1] at h
              exact absurd rfl h
            · rw [q1]
              exact vp_in_nI (by omega) (by omega)
            · rw [q1, q2, q3] at h
              exact absurd h c2
        · obtain ⟨v2, hz⟩ := ih2 (i + 1) (by omega) (fun j h1 h2 => by
            by_cases e : j = i
            · subst e
              exact absurd h2 c1
            · exact hji j (by omega) h2)
          refine ⟨v2, fun C hC => bX6_agreeWith_15 (o := 7) rfl (o1 := 2) rfl hC ⟨fun h => absurd h hnl, fun _ => ⟨vp_in_nI (by omega) (by omega), fun _ => ?_, fun h => ?_⟩⟩⟩
          · rw [nI_1]
            exact hz C hC
          · rw [q0] at h
            exact absurd ((nI_eq (by omega) (by omega)).mp h) c1
    obtain ⟨v2, hz⟩ := inner sn 0 (by omega) (fun j h1 => absurd h1 (by omega))
    exact ⟨v2, fun C hC => bX6_agreeWith_7 (o := 7) rfl (o1 := 2) rfl hC ⟨fun h => absurd ((ltM (by omega) (by omega)).mp h) (by omega), fun _ => hz C hC⟩⟩
theorem ev_agree (hS : SR (s 7) sn sa) (hB : SB nr sn sa) (hp : PI nb nr p) (hH : HR (s 2) nb nr p f w) : ∃ v2, Ev l ad D ia (d + 5) mX6_agreeWith [.ref (ad 7 0), .ref (ad 2 0)] s (some (.int (b1 (ag p sa sn 0)))) (va_up s 2 v2) := by
  obtain ⟨M, -, hM, hm, hz⟩ := ev_lastL (l := l) (ad := ad) (D := D) (ia := ia) (d := d + 3) (s := s) hS hB hp.1.2 sn 0 0 (by omega) (by omega)
  obtain ⟨v2, hz2⟩ := ev_agL (l := l) (ad := ad) (D := D) (ia := ia) (d := d) (s := s) hS hB hp hM (fun j h => hm j (by omega) h) M 0 (s 2) (by omega) hH (fun j h1 h2 => absurd h2 (by omega))
  rw [up_id] at hz2
  exact ⟨v2, eX6_agreeWith (o := 7) rfl (o1 := 2) rfl (fun C hZ => ⟨_, s, eX6_lastBehind (o := 7) rfl (fun C2 hZ2 => hz C2 hZ2), hz2 C hZ⟩)⟩
/-- which of the values 0.. are as seen -/
def agBits (P : Nat → PS) (sa : Nat → Nat → Int32) (sn : Nat) : Nat → Nat → Int32 → Int32
  | 0, _, x => x
  | k + 1, v, x => agBits P sa sn k (v + 1) (if ag (P v) sa sn 0 = true then x ||| (1 <<< (nI v &&& 31)) else x)
theorem ev_kindsL (hS : SR (s 7) sn sa) (hB : SB nr sn sa) (hr : r < nr) (hH1 : HQ (s 1) nb nr p) (hp : PI nb nr p) : ∀ (k v : Nat) (u : OV) (x : Int32), v + k = 4 → ∃ u2, ∀ C : ZC, Zok ad D ia C (d + 6) cX8_kinds 4 RX8 (some .int) → Z l ad D ia C (some (.int (agBits (fun v => pr p 3 r (nI v)) sa sn k v x))) (va_up s 2 u2) 17 [(0, .ref (ad 0 0)), (1, .int (nI r)), (2, .int x), (3, .int (nI v))] [] (va_up s 2 u) := by
  have h8 := hp.1.1
  have h4 := hp.1.2
  intro k
  induction k with
  | zero =>
    intro v u x hv
    exact ⟨u, fun C hC => bX8_kinds_17 hC ⟨fun _ => ⟨rfl, rfl⟩, fun h => absurd (nI_lt (a := 3) (b := v) (by omega) (by omega)) h⟩⟩
  | succ k ih =>
    intro v u x hv
    have hq : HQ (va_up s 2 u 1) nb nr p := by rw [va_up_ne _ _ (by decide)]; exact hH1
    obtain ⟨v1, hb1, hT⟩ := ev_beginTrial (l := l) (ad := ad) (D := D) (ia := ia) (d := d + 3) (s := va_up s 2 u) hq h8 h4
    rw [up_up] at hb1
    have hT1 := hT.w5 r (nI v)
    generalize hu1 : setA v1 5 (upd (v1.2.2 5) r (nI v)) = u1 at hT1
    have hT2 : HR (va_up s 2 u1 2) nb nr (pr p 3 r (nI v)) 0 0 := by rw [va_up_self]; exact hT1
    have hS2 : SR (va_up s 2 u1 7) sn sa := by rw [va_up_ne _ _ (by decide)]; exact hS
    have hp2 : PI nb nr (pr p 3 r (nI v)) := by
      obtain ⟨a1, a2, a3, a4⟩ := hp
      refine ⟨a1, ?_, ?_, ?_⟩
      · intro b hb
        rw [pr_sta (by decide)]
        exact a2 b hb
      · intro q hq
        rw [pr_sta (by decide)]
        exact a3 q hq
      · intro b hb
        rw [pr_sta (by decide)]
        exact a4 b hb
    obtain ⟨v2, hb2⟩ := ev_agree (l := l) (ad := ad) (D := D) (ia := ia) (d := d) hS2 hB hp2 hT2
    rw [up_up] at hb2
    have hnl : ¬ (3 : Int32) < nI v := nI_nlt (a := 3) (b := v) (by omega) (by omega)
    obtain ⟨u2, hz⟩ := ih (v + 1) v2 (if ag (pr p 3 r (nI v)) sa sn 0 = true then x ||| (1 <<< (nI v &&& 31)) else x) (by omega)
    refine ⟨u2, fun C hC => bX8_kinds_17 hC ⟨fun h => absurd h hnl, fun _ => ⟨_, hb1, vp_in_nI (by omega) (by omega), fun s1 e1 => ⟨b1 (ag (pr p 3 r (nI v)) sa sn 0), va_up s 2 v2, ?_, fun h => ?_, fun h => ?_⟩⟩⟩⟩
    · rw [nI_clamp (by omega), stA_up, hu1] at e1
      subst e1
      exact hb2
    · have e := b1_ne.mp h
      have hz := hz C hC
      rw [e] at hz
      rw [nI_1]
      unfold agBits
      rw [e]
      exact hz
    · have e := b1_n.mp h
      have hz := hz C hC
      rw [e] at hz
      rw [nI_1]
      unfold agBits
      rw [e]
      exact hz
theorem ev_heightsL (hS : SR (s 7) sn sa) (hB : SB nr sn sa) (hb : b < nb) (hH1 : HQ (s 1) nb nr p) (hp : PI nb nr p) : ∀ (k v : Nat) (u : OV) (x : Int32), v + k = 10 → ∃ u2, ∀ C : ZC, Zok ad D ia C (d + 6) cX8_heightsAsSeen 4 RX8 (some .int) → Z l ad D ia C (some (.int (agBits (fun v => pr p 1 b (nI v)) sa sn k v x))) (va_up s 2 u2) 4 [(0, .ref (ad 0 0)), (1, .int (nI b)), (2, .int x), (3, .int (nI v))] [] (va_up s 2 u) := by
  have h8 := hp.1.1
  have h4 := hp.1.2
  intro k
  induction k with
  | zero =>
    intro v u x hv
    exact ⟨u, fun C hC => bX8_heightsAsSeen_4 hC ⟨fun _ => ⟨rfl, rfl⟩, fun h => absurd (nI_lt (a := 9) (b := v) (by omega) (by omega)) h⟩⟩
  | succ k ih =>
    intro v u x hv
    have hq : HQ (va_up s 2 u 1) nb nr p := by rw [va_up_ne _ _ (by decide)]; exact hH1
    obtain ⟨v1, hb1, hT⟩ := ev_beginTrial (l := l) (ad := ad) (D := D) (ia := ia) (d := d + 3) (s := va_up s 2 u) hq h8 h4
    rw [up_up] at hb1
    have hT1 := hT.w2 b (nI v)
    generalize hu1 : setA v1 2 (upd (v1.2.2 2) b (nI v)) = u1 at hT1
    have hT2 : HR (va_up s 2 u1 2) nb nr (pr p 1 b (nI v)) 0 0 := by rw [va_up_self]; exact hT1
    have hS2 : SR (va_up s 2 u1 7) sn sa := by rw [va_up_ne _ _ (by decide)]; exact hS
    obtain ⟨v2, hb2⟩ := ev_agree (l := l) (ad := ad) (D := D) (ia := ia) (d := d) hS2 hB (PI_h hp ⟨v, by omega, rfl⟩) hT2
    rw [up_up] at hb2
    have hnl : ¬ (9 : Int32) < nI v := nI_nlt (a := 9) (b := v) (by omega) (by omega)
    obtain ⟨u2, hz⟩ := ih (v + 1) v2 (if ag (pr p 1 b (nI v)) sa sn 0 = true then x ||| (1 <<< (nI v &&& 31)) else x) (by omega)
    refine ⟨u2, fun C hC => bX8_heightsAsSeen_4 hC ⟨fun h => absurd h hnl, fun _ => ⟨_, hb1, vp_in_nI (by omega) (by omega), fun s1 e1 => ⟨b1 (ag (pr p 1 b (nI v)) sa sn 0), va_up s 2 v2, ?_, fun h => ?_, fun h => ?_⟩⟩⟩⟩
    · rw [nI_clamp (by omega), stA_up, hu1] at e1
      subst e1
      exact hb2
    · have e := b1_ne.mp h
      have hz := hz C hC
      rw [e] at hz
      rw [nI_1]
      unfold agBits
      rw [e]
      exact hz
    · have e := b1_n.mp h
      have hz := hz C hC
      rw [e] at hz
      rw [nI_1]
      unfold agBits
      rw [e]
      exact hz
theorem ev_heightsAS (hS : SR (s 7) sn sa) (hB : SB nr sn sa) (hb : b < nb) (hH1 : HQ (s 1) nb nr p) (hp : PI nb nr p) : ∃ u2, Ev l ad D ia (d + 6) mX8_heightsAsSeen [.ref (ad 0 0), .int (nI b)] s (some (.int (agBits (fun v => pr p 1 b (nI v)) sa sn 10 0 0))) (va_up s 2 u2) := by
  obtain ⟨u2, hz⟩ := ev_heightsL (l := l) (ad := ad) (D := D) (ia := ia) (d := d) (s := s) hS hB hb hH1 hp 10 0 (s 2) 0 (by omega)
  rw [up_id] at hz
  exact ⟨u2, eX8_heightsAsSeen (fun C hZ => hz C hZ)⟩
end OST
