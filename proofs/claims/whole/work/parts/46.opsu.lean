def KW (v v1 : OV) : Prop := KM v v1 ∧ v1.2.2 28 = v.2.2 28
theorem KW.rf (v : OV) : KW v v := ⟨KM.rf v, rfl⟩
theorem KW.tr {a b c : OV} (h : KW a b) (h2 : KW b c) : KW a c := ⟨h.1.tr h2.1, h2.2.trans h.2⟩
theorem K0.W {a b : OV} (h : K0 a b) : KW a b := ⟨h.M, h.2.1 28 (by decide)⟩
theorem KW.A27 (v : OV) (g : Nat → Int32) : KW v (setA v 27 g) := ⟨⟨fun _ _ => rfl, fun k hk => va_up_ne _ _ (by omega)⟩, va_up_ne v.2.2 g (show (28 : Nat) ≠ 27 by decide)⟩
/-- the table of wants, up to day n and reader r -/
def WT (v : OV) (nr : Nat) (p : PS) (n r : Nat) : Prop := ∀ n2 r2, r2 < nr → (n2 < n ∨ (n2 = n ∧ r2 < r)) → v.2.2 27 (4 * n2 + r2) = (itp n2 p r2).1
theorem WT.k {v v1 : OV} {nr : Nat} {p : PS} {n r : Nat} (h : WT v nr p n r) (hk : KN v v1) : WT v1 nr p n r := fun n2 r2 a b => by
  rw [hk.1.2.1 27 (by decide)]
  exact h n2 r2 a b
theorem ixW (i : Nat) : 44 + 3 * nI i = nI (44 + 3 * i) := by
  show nI 44 + nI 3 * nI i = _
  rw [nI_mul, nI_add]
theorem ix4 (n r : Nat) : 4 * nI n + nI r = nI (4 * n + r) := by
  show nI 4 * nI n + nI r = _
  rw [nI_mul, nI_add]
section OSU
variable {l : Launch} {ad : ZA} {D : va_G} {ia : Nat → ClassId} {d nb nr r b o o1 sn : Nat} {s : ZS} {p : PS} {f m w : Int32} {sa : Nat → Nat → Int32}
theorem mv_soL (hp : PI nb nr p) : ∀ (k n : Nat) (m : Int32) (v : OV), n + k = 21 → MM v nb nr (days nr n (p, f, w)).1 (days nr n (p, f, w)).2.1 m (days nr n (p, f, w)).2.2 → WT v nr p n 0 → ∃ v2, KW v v2 ∧ WT v2 nr p 21 0 ∧ ∀ (C : ZC) (X : Option Value) (Y : ZS), Zok ad D ia C (d + 5) cX9_isSoWith 6 RX9 (some .boolean) → Z l ad D ia C X Y 70 [(0, .ref (ad 20 0)), (3, .int 1), (4, .int 0)] [] (va_up s 20 v2) → Z l ad D ia C X Y 13 [(0, .ref (ad 20 0)), (3, .int (nI n))] [] (va_up s 20 v) := by
  have h4 := hp.1.2
  intro k
  induction k with
  | zero =>
    intro n m v hn hM hT
    have e : n = 21 := by omega
    subst e
    exact ⟨v, KW.rf v, hT, fun C X Y hC hz => bX9_isSoWith_13 hC ⟨fun _ => hz, fun h => absurd (by decide) h⟩⟩
  | succ k ih =>
    intro n m v hn hM hT
    have hpn := PI_days (nb := nb) (nr := nr) n (q := (p, f, w)) hp
    have inner : ∀ (c r : Nat) (v : OV), r + c = nr → MM v nb nr (days nr n (p, f, w)).1 (days nr n (p, f, w)).2.1 m (days nr n (p, f, w)).2.2 → WT v nr p n r → ∃ v2, KW v v2 ∧ WT v2 nr p 21 0 ∧ ∀ (C : ZC) (X : Option Value) (Y : ZS), Zok ad D ia C (d + 5) cX9_isSoWith 6 RX9 (some .boolean) → Z l ad D ia C X Y 70 [(0, .ref (ad 20 0)), (3, .int 1), (4, .int 0)] [] (va_up s 20 v2) → Z l ad D ia C X Y 22 [(0, .ref (ad 20 0)), (3, .int (nI n)), (4, .int (nI r))] [] (va_up s 20 v) := by
      intro c
      induction c with
      | zero =>
        intro r v hr hM hT
        have hMb : MM (va_up s 20 v 20) nb nr (days nr n (p, f, w)).1 (days nr n (p, f, w)).2.1 m (days nr n (p, f, w)).2.2 := by rw [va_up_self]; exact hM
        obtain ⟨v1, e1, hM1, hk1⟩ := mv_dayGoes (l := l) (ad := ad) (D := D) (ia := ia) (d := d) hMb hpn
        rw [up_up] at e1
        rw [va_up_self] at hk1
        have es : day nr ((days nr n (p, f, w)).1, (days nr n (p, f, w)).2.1, (days nr n (p, f, w)).2.2) = days nr (n + 1) (p, f, w) := (days_succ nr n (p, f, w)).symm
        rw [es] at hM1
        obtain ⟨v2, hk2, hT2, hz⟩ := ih (n + 1) _ v1 (by omega) hM1 (fun n2 r2 a b => (hT.k hk1) n2 r2 a (by omega))
        refine ⟨v2, hk1.1.W.tr hk2, hT2, fun C X Y hC hz0 => bX9_isSoWith_22 hC ⟨fun _ => ⟨_, e1, ?_⟩, fun h => ?_⟩⟩
        · rw [nI_1]
          exact hz C X Y hC hz0
        · rw [va_up_self, hM.1.2] at h
          exact absurd (nI_le (by omega) (by omega)) h
      | succ c ih2 =>
        intro r v hr hM hT
        have hMb : MM (va_up s 20 v 20) nb nr (days nr n (p, f, w)).1 (days nr n (p, f, w)).2.1 m (days nr n (p, f, w)).2.2 := by rw [va_up_self]; exact hM
        have hof := mv_ofR (l := l) (ad := ad) (D := D) (ia := ia) (d := d + 4) (c := 1) (r := r) hMb hpn (by decide) (by omega)
        have ew : (days nr n (p, f, w)).1.1 4 r = (itp n p r).1 := (days_it nr (by omega) n (p, f, w)).1
        have hof2 : Ev l ad D ia (d + 4) mX9_ofReader [.ref (ad 20 0), .int (nI r), .int 1] (va_up s 20 v) (some (.int (itp n p r).1)) (va_up s 20 v) := by
          rw [← ew]
          exact hof
        have hT3 : WT (setA v 27 (upd (v.2.2 27) (4 * n + r) (itp n p r).1)) nr p n (r + 1) := by
          intro n2 r2 a b
          show va_up v.2.2 27 (upd (v.2.2 27) (4 * n + r) (itp n p r).1) 27 (4 * n2 + r2) = _
          rw [va_up_self]
          by_cases e : 4 * n2 + r2 = 4 * n + r
          · have e1 : n2 = n := by omega
            have e2 : r2 = r := by omega
            subst e1
            subst e2
            rw [upd_self]
          · rw [upd_ne _ _ e]
            exact hT n2 r2 a (by
              rcases b with b | ⟨b1, b2⟩
              · exact Or.inl b
              · refine Or.inr ⟨b1, ?_⟩
                subst b1
                omega)
        have hM3 : MM (setA v 27 (upd (v.2.2 27) (4 * n + r) (itp n p r).1)) nb nr (days nr n (p, f, w)).1 (days nr n (p, f, w)).2.1 m (days nr n (p, f, w)).2.2 := hM
        obtain ⟨v2, hk2, hT2, hz⟩ := ih2 (r + 1) _ (by omega) hM3 hT3
        refine ⟨v2, (KW.A27 v _).tr hk2, hT2, fun C X Y hC hz0 => bX9_isSoWith_22 hC ⟨fun h => ?_, fun _ => ⟨_, _, hof2, ?_, fun s1 e1 => ?_⟩⟩⟩
        · rw [va_up_self, hM.1.2] at h
          exact absurd h (nI_ge (by omega) (by omega))
        · rw [ix4]
          exact vp_in_nI (by omega) (by omega)
        · rw [ix4, nI_clamp (by omega), stA_up] at e1
          subst e1
          rw [nI_1]
          exact hz C X Y hC hz0
    obtain ⟨v2, hk2, hT2, hz⟩ := inner nr 0 v (by omega) hM hT
    exact ⟨v2, hk2, hT2, fun C X Y hC hz0 => bX9_isSoWith_13 hC ⟨fun h => absurd h (nI_nlt (a := 20) (b := n) (by omega) (by omega)), fun _ => hz C X Y hC hz0⟩⟩
theorem mv_soE {v : OV} (hB : SB nr sn sa) (h4 : nr ≤ 4) (hT : WT v nr p 21 0) (h43 : v.2.2 0 43 = nI sn) (hsa : ∀ i j, i < sn → j < 3 → v.2.2 0 (44 + 3 * i + j) = sa i j) {C : ZC} (hC : Zok ad D ia C (d + 5) cX9_isSoWith 6 RX9 (some .boolean)) : ∀ (k i : Nat) (t : Bool), i + k = sn → Z l ad D ia C (some (.int (b1 (t && ag p sa k i)))) (va_up s 20 v) 70 [(0, .ref (ad 20 0)), (3, .int (b1 t)), (4, .int (nI i))] [] (va_up s 20 v) := by
  have h6 := hB.1
  intro k
  induction k with
  | zero =>
    intro i t hi
    refine bX9_isSoWith_70 hC ⟨vp_in_nI (n := 43) (by decide) (by decide), fun _ => ⟨b1_nar _, ?_, rfl⟩, fun h => ?_⟩
    · show some (Value.int (b1 (t && true))) = _
      rw [Bool.and_true]
    · rw [va_up_self, c43, h43] at h
      exact absurd (nI_le (by omega) (by omega)) h
  | succ k ih =>
    intro i t hi
    have g := hB.g h4 (i := i) (by omega)
    refine bX9_isSoWith_70 hC ⟨vp_in_nI (n := 43) (by decide) (by decide), fun h => ?_, fun _ => ⟨fun h => ?_, fun h => ?_⟩⟩
    · rw [va_up_self, c43, h43] at h
      exact absurd h (nI_ge (by omega) (by omega))
    · have e := b1_ne.mp h
      subst e
      rw [nI_1]
      have := ih (i + 1) false (by omega)
      exact this
    · have e := b1_n.mp h
      subst e
      have e45 : nI (44 + 3 * i) + 1 = nI (44 + 3 * i + 1) := nI_1 _
      have e46 : nI (44 + 3 * i) + 2 = nI (44 + 3 * i + 2) := nI_add _ 2
      have q0 : v.2.2 0 (44 + 3 * i) = nI (bk (sa i 0)) := by rw [← g.1.2]; exact hsa i 0 (by omega) (by omega)
      have q1 : v.2.2 0 (44 + 3 * i + 1) = nI (bk (sa i 1)) := by rw [← g.2.2]; exact hsa i 1 (by omega) (by omega)
      have q2 : v.2.2 0 (44 + 3 * i + 2) = sa i 2 := hsa i 2 (by omega) (by omega)
      have q3 : v.2.2 27 (4 * bk (sa i 0) + bk (sa i 1)) = (itp (bk (sa i 0)) p (bk (sa i 1))).1 := hT _ _ g.2.1 (by omega)
      rw [va_up_self, ixW, e45, e46, nI_clamp (show 44 + 3 * i < 2 ^ 31 by omega), nI_clamp (show 44 + 3 * i + 1 < 2 ^ 31 by omega), nI_clamp (show 44 + 3 * i + 2 < 2 ^ 31 by omega), q0, q1, q2, ix4, nI_clamp (show 4 * bk (sa i 0) + bk (sa i 1) < 2 ^ 31 by omega), q3, nI_1]
      refine ⟨vp_in_nI (by omega) (by omega), vp_in_nI (by omega) (by omega), vp_in_nI (by omega) (by omega), vp_in_nI (by omega) (by omega), fun h2 => ?_, fun h2 => ?_⟩
      · have ea : ag p sa (k + 1) i = false := by
          show (decide ((itp (bk (sa i 0)) p (bk (sa i 1))).1 = sa i 2) && ag p sa k (i + 1)) = false
          rw [decide_eq_false h2, Bool.false_and]
        rw [ea]
        have := ih (i + 1) false (by omega)
        exact this
      · have ea : ag p sa (k + 1) i = ag p sa k (i + 1) := by
          show (decide ((itp (bk (sa i 0)) p (bk (sa i 1))).1 = sa i 2) && ag p sa k (i + 1)) = _
          rw [decide_eq_true h2, Bool.true_and]
        rw [ea]
        have := ih (i + 1) true (by omega)
        exact this
theorem mv_isSo {s0 : ZS} {nb nr : Nat} {p p2 : PS} {tl : Nat} {tb : Nat → Int32} {flt : Int32} {sn : Nat} {sa : Nat → Nat → Int32} {K : KT} {H : HT} {tn : Int32} (hM : MR (s0 20) nb nr p tl tb flt sn sa K H tn) (hk : KM (s0 20) (s 20)) (hB : SB nr sn sa) (h8 : nb ≤ 8) (hp : PI nb nr p2) {ix : Nat} {x : Int32} (hix : ix < 43) (hch : ∀ a, NR a nb nr p → NR (upd a ix x) nb nr p2) : ∃ v2, Ev l ad D ia (d + 5) mX9_isSoWith [.ref (ad 20 0), .int (nI ix), .int x] s (some (.int (b1 (ag p2 sa sn 0)))) (va_up s 20 v2) ∧ KM (s0 20) v2 ∧ WT v2 nr p2 21 0 ∧ v2.2.2 28 = (s 20).2.2 28 := by
  have h4 := hp.1.2
  have hM1 := MR_km hk hM
  obtain ⟨v0, e0, hM0, hk0⟩ := mv_starts (l := l) (ad := ad) (D := D) (ia := ia) (d := d + 4) (s := s) (nb := nb) (nr := nr) (p := p) hM1.1 hM1.2.2.2.1 h8 h4
  have hM2 := hM0.now (hch _ hM0.2.1)
  have hk2 : K0 v0 (setA v0 1 (upd (v0.2.2 1) ix x)) := K0.A _ _
  obtain ⟨v3, hk3, hT3, hz⟩ := mv_soL (l := l) (ad := ad) (D := D) (ia := ia) (d := d) (s := s) (f := v0.1 18) (w := v0.1 20) hp 21 0 (v0.1 19) _ (by omega) hM2 (fun n2 r2 a b => absurd b (by omega))
  have hkw : KW (s 20) v3 := (hk0.W.tr hk2.W).tr hk3
  have hkm : KM (s0 20) v3 := hk.tr hkw.1
  have hS := sat0.mp (MR_km hkm hM).2.2.2.1
  refine ⟨v3, eX9_isSoWith (fun C hZ => ⟨_, e0, vp_in_nI (by omega) (by omega), fun s1 e1 => ?_⟩), hkm, hT3, hkw.2⟩
  rw [nI_clamp (by omega), stA_up] at e1
  subst e1
  have := mv_soE (l := l) (ad := ad) (D := D) (ia := ia) (d := d) (s := s) hB h4 hT3 hS.2.1 hS.2.2 hZ sn 0 true (by omega)
  exact hz C _ _ hZ this
theorem fl_b1 (t : Bool) : (if b1 t = 0 then (0 : Int32) else 1) = b1 t := by cases t <;> rfl
theorem mv_flagB (t : Bool) : Ev l ad D ia d mX9_flag [.int (b1 t)] s (some (.int (b1 t))) s := by
  have := mv_flag (l := l) (ad := ad) (D := D) (ia := ia) (d := d) (s := s) (b1 t)
  rw [fl_b1] at this
  exact this
theorem orb (t : Bool) (x y : Int32) : (x ||| (b1 t <<< y)) = if t = true then x ||| (1 <<< y) else x := by
  cases t
  · show x ||| ((0 : Int32) <<< y) = x
    have e : (0 : Int32) <<< y = 0 := by simp
    rw [e]
    simp
  · rfl
theorem mv_kindsL {s0 : ZS} {nb nr r : Nat} {p : PS} {tl : Nat} {tb : Nat → Int32} {flt : Int32} {sn : Nat} {sa : Nat → Nat → Int32} {K : KT} {H : HT} {tn : Int32} (hM : MR (s0 20) nb nr p tl tb flt sn sa K H tn) (hB : SB nr sn sa) (hr : r < nr) (hp : PI nb nr p) : ∀ (k v : Nat) (u : OV) (x : Int32), v + k = 4 → KM (s0 20) u → ∃ u2, KM (s0 20) u2 ∧ ∀ C : ZC, Zok ad D ia C (d + 6) cX9_kinds 4 RX9 (some .int) → Z l ad D ia C (some (.int (agBits (fun v => pr p 3 r (nI v)) sa sn k v x))) (va_up s 20 u2) 14 [(0, .ref (ad 20 0)), (1, .int (nI r)), (2, .int x), (3, .int (nI v))] [] (va_up s 20 u) := by
  have h8 := hp.1.1
  have h4 := hp.1.2
  intro k
  induction k with
  | zero =>
    intro v u x hv hu
    exact ⟨u, hu, fun C hC => bX9_kinds_14 hC ⟨fun _ => ⟨rfl, rfl⟩, fun h => absurd (nI_le (a := 4) (b := v) (by omega) (by omega)) h⟩⟩
  | succ k ih =>
    intro v u x hv hu
    have hp2 : PI nb nr (pr p 3 r (nI v)) := by
      obtain ⟨a1, a2, a3, a4⟩ := hp
      refine ⟨a1, ?_, ?_, ?_⟩
      · intro b hb
        rw [pr_sta (by decide)]
        exact a2 b hb
      · intro q hq
        rw [pr_sta (by decide)]
        exact a3 q hq
      · intro b hb
        rw [pr_sta (by decide)]
        exact a4 b hb
    obtain ⟨v1, e1, hk1, -, -⟩ := mv_isSo (l := l) (ad := ad) (D := D) (ia := ia) (d := d) (s := va_up s 20 u) (p2 := pr p 3 r (nI v)) (ix := 24 + 4 * r + 0) (x := nI v) hM (by rw [va_up_self]; exact hu) hB h8 hp2 (by omega) (fun a ha => ha.rd h8 h4 (c := 0) (by decide) hr (nI v))
    rw [up_up] at e1
    obtain ⟨u2, hk2, hz⟩ := ih (v + 1) v1 (if ag (pr p 3 r (nI v)) sa sn 0 = true then x ||| (1 <<< (nI v &&& 31)) else x) (by omega) hk1
    refine ⟨u2, hk2, fun C hC => bX9_kinds_14 hC ⟨fun h => absurd h (nI_ge (a := v) (b := 4) (by omega) (by omega)), fun _ => ⟨b1 (ag (pr p 3 r (nI v)) sa sn 0), va_up s 20 v1, ?_, _, _, mv_flagB _, ?_⟩⟩⟩
    · have ei : (24 + 4 * nI r) + 0 = nI (24 + 4 * r + 0) := ixR r 0
      rw [ei]
      exact e1
    · rw [orb, nI_1]
      exact hz C hC
theorem mv_heightsL {s0 : ZS} {nb nr b : Nat} {p : PS} {tl : Nat} {tb : Nat → Int32} {flt : Int32} {sn : Nat} {sa : Nat → Nat → Int32} {K : KT} {H : HT} {tn : Int32} (hM : MR (s0 20) nb nr p tl tb flt sn sa K H tn) (hB : SB nr sn sa) (hb : b < nb) (hp : PI nb nr p) : ∀ (k v : Nat) (u : OV) (x : Int32), v + k = 10 → KM (s0 20) u → ∃ u2, KM (s0 20) u2 ∧ ∀ C : ZC, Zok ad D ia C (d + 6) cX9_heights 4 RX9 (some .int) → Z l ad D ia C (some (.int (agBits (fun v => pr p 1 b (nI v)) sa sn k v x))) (va_up s 20 u2) 14 [(0, .ref (ad 20 0)), (1, .int (nI b)), (2, .int x), (3, .int (nI v))] [] (va_up s 20 u) := by
  have h8 := hp.1.1
  have h4 := hp.1.2
  intro k
  induction k with
  | zero =>
    intro v u x hv hu
    exact ⟨u, hu, fun C hC => bX9_heights_14 hC ⟨fun _ => ⟨rfl, rfl⟩, fun h => absurd (nI_lt (a := 9) (b := v) (by omega) (by omega)) h⟩⟩
  | succ k ih =>
    intro v u x hv hu
    obtain ⟨v1, e1, hk1, -, -⟩ := mv_isSo (l := l) (ad := ad) (D := D) (ia := ia) (d := d) (s := va_up s 20 u) (p2 := pr p 1 b (nI v)) (ix := 3 * b + 1) (x := nI v) hM (by rw [va_up_self]; exact hu) hB h8 (PI_h hp ⟨v, by omega, rfl⟩) (by omega) (fun a ha => ha.bw h8 h4 (c := 1) (by decide) hb (nI v))
    rw [up_up] at e1
    obtain ⟨u2, hk2, hz⟩ := ih (v + 1) v1 (if ag (pr p 1 b (nI v)) sa sn 0 = true then x ||| (1 <<< (nI v &&& 31)) else x) (by omega) hk1
    refine ⟨u2, hk2, fun C hC => bX9_heights_14 hC ⟨fun h => absurd h (nI_nlt (a := 9) (b := v) (by omega) (by omega)), fun _ => ⟨b1 (ag (pr p 1 b (nI v)) sa sn 0), va_up s 20 v1, ?_, _, _, mv_flagB _, ?_⟩⟩⟩
    · have ei : 3 * nI b + 1 = nI (3 * b + 1) := ixB b 1
      rw [ei]
      exact e1
    · rw [orb, nI_1]
      exact hz C hC
theorem op_kinds (hR : RR s) (x : Int32) : Op l ad D ia s mX8_kinds mX9_kinds [.int x] := by
  obtain ⟨nb, nr, p, tl, tb, flt, sn, sa, K, H, tn, hG, hC, hM⟩ := hR
  have hbad : RR s := ⟨nb, nr, p, tl, tb, flt, sn, sa, K, H, tn, hG, hC, hM⟩
  have hp := hG.1.1
  have h8 := hp.1.1
  have h4 := hp.1.2
  have hB := hG.2.2.1
  obtain ⟨f, w, hH⟩ := hC.1
  have hA := ev_hasR (l := l) (ad := ad) (D := D) (ia := ia) (d := 8) (s := s) (o := 1) rfl hH.n4 h4 x
  have hMA := fun s2 (h : (s2 20).1 4 = nI nr) => mv_isReader (l := l) (ad := ad) (D := D) (ia := ia) (d := 7) (s := s2) h h4 x
  by_cases cx : inN x nr = true
  · rw [cx] at hA hMA
    obtain ⟨r, hr, rfl⟩ := inN_nI cx
    obtain ⟨u2, hz⟩ := ev_kindsL (l := l) (ad := ad) (D := D) (ia := ia) (d := 3) (s := s) hC.2.2.2.1 hB hr hC.1 hp 4 0 (s 2) 0 (by omega)
    rw [up_id] at hz
    have h20 : va_up s 2 u2 20 = s 20 := va_up_ne _ _ (by decide)
    obtain ⟨u3, hk3, hz3⟩ := mv_kindsL (l := l) (ad := ad) (D := D) (ia := ia) (d := 3) (s := va_up s 2 u2) hM hB hr hp 4 0 (va_up s 2 u2 20) 0 (by omega) (KM.eq h20)
    rw [up_id] at hz3
    exact ⟨.int (agBits (fun v => pr p 3 r (nI v)) sa sn 4 0 0), _, _, eX8_kinds (fun C hZ => ⟨_, _, hA, fun _ => hz C hZ, fun h => absurd h (by decide)⟩), eX9_kinds (fun C hZ => ⟨_, _, hMA _ (by rw [h20]; exact hM.1.2), fun _ => hz3 C hZ, fun h => absurd h (by decide)⟩), RR_sc hG hC hM (KC.up (o := 2) (v := u2) (by decide)) hk3⟩
  · rw [bool_f cx] at hA hMA
    exact ⟨.int (-1), _, _, eX8_kinds (fun C hZ => ⟨_, _, hA, fun h => absurd rfl h, fun _ => ⟨rfl, rfl⟩⟩), eX9_kinds (fun C hZ => ⟨_, _, hMA _ hM.1.2, fun h => absurd rfl h, fun _ => ⟨rfl, rfl⟩⟩), hbad⟩
theorem op_heights (hR : RR s) (x : Int32) : Op l ad D ia s mX8_heights mX9_heights [.int x] := by
  obtain ⟨nb, nr, p, tl, tb, flt, sn, sa, K, H, tn, hG, hC, hM⟩ := hR
  have hbad : RR s := ⟨nb, nr, p, tl, tb, flt, sn, sa, K, H, tn, hG, hC, hM⟩
  have hp := hG.1.1
  have h8 := hp.1.1
  have h4 := hp.1.2
  have hB := hG.2.2.1
  obtain ⟨f, w, hH⟩ := hC.1
  have hA := ev_hasB (l := l) (ad := ad) (D := D) (ia := ia) (d := 8) (s := s) (o := 1) rfl hH.n0 h8 x
  have hMA := fun s2 (h : (s2 20).1 3 = nI nb) => mv_isBook (l := l) (ad := ad) (D := D) (ia := ia) (d := 7) (s := s2) h h8 x
  by_cases cx : inN x nb = true
  · rw [cx] at hA hMA
    obtain ⟨b, hb, rfl⟩ := inN_nI cx
    obtain ⟨u2, hz⟩ := ev_heightsAS (l := l) (ad := ad) (D := D) (ia := ia) (d := 2) (s := s) hC.2.2.2.1 hB hb hC.1 hp
    have h20 : va_up s 2 u2 20 = s 20 := va_up_ne _ _ (by decide)
    obtain ⟨u3, hk3, hz3⟩ := mv_heightsL (l := l) (ad := ad) (D := D) (ia := ia) (d := 3) (s := va_up s 2 u2) hM hB hb hp 10 0 (va_up s 2 u2 20) 0 (by omega) (KM.eq h20)
    rw [up_id] at hz3
    exact ⟨.int (agBits (fun v => pr p 1 b (nI v)) sa sn 10 0 0), _, _, eX8_heights ⟨_, _, hA, fun h => absurd h (by decide), fun _ => ⟨_, _, hz, rfl, rfl⟩⟩, eX9_heights (fun C hZ => ⟨_, _, hMA _ (by rw [h20]; exact hM.1.1), fun _ => hz3 C hZ, fun h => absurd h (by decide)⟩), RR_sc hG hC hM (KC.up (o := 2) (v := u2) (by decide)) hk3⟩
  · rw [bool_f cx] at hA hMA
    exact ⟨.int (-1), _, _, eX8_heights ⟨_, _, hA, fun _ => ⟨rfl, rfl⟩, fun h => absurd rfl h⟩, eX9_heights (fun C hZ => ⟨_, _, hMA _ hM.1.1, fun h => absurd rfl h, fun _ => ⟨rfl, rfl⟩⟩), hbad⟩
end OSU
