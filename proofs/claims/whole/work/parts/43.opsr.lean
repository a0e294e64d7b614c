section OR
variable {l : Launch} {ad : ZA} {D : va_G} {ia : Nat → ClassId} {d nb nr r b o o1 : Nat} {s : ZS} {p : PS} {f m w : Int32}
/-- one cell of two books, changed from what is kept -/
theorem mv_cell1 {C : ZC} {X : Option Value} {Y : ZS} {v : OV} {q : PS} {a b c : Nat} {x1 x2 x3 x4 : Int32} (h8 : nb ≤ 8) (h4 : nr ≤ 4) (hc : c < 2) (ha : a < nb) (hb : b < nb) (hM : MM v nb nr q f m w) (hst : ∀ i, i < nb → v.2.2 0 (3 * i + c) = p.1 c i) (hC : Zok ad D ia C (d + 6) cX9_swap 8 RX9 (some .int)) :
    ∃ v1, MM v1 nb nr (pr (pr q c a (p.1 c b)) c b (p.1 c a)) f m w ∧ KN v v1 ∧ v1.2.2 0 = v.2.2 0 ∧ (Z l ad D ia C X Y 68 [(0, .ref (ad 20 0)), (1, .int x1), (2, .int x2), (3, .int x3), (4, .int x4), (5, .int (nI a)), (6, .int (nI b)), (7, .int (nI (c + 1)))] [] (va_up s 20 v1) → Z l ad D ia C X Y 68 [(0, .ref (ad 20 0)), (1, .int x1), (2, .int x2), (3, .int x3), (4, .int x4), (5, .int (nI a)), (6, .int (nI b)), (7, .int (nI c))] [] (va_up s 20 v)) := by
  have m1 := hM.now (hM.2.1.bw h8 h4 (c := c) (by omega) ha (p.1 c b))
  have m2 := m1.now (m1.2.1.bw h8 h4 (c := c) (by omega) hb (p.1 c a))
  have k1 : KN v (setA v 1 (upd (v.2.2 1) (3 * a + c) (p.1 c b))) := KN.A _ _ (by omega) (fun _ _ => rfl)
  have k2 : KN (setA v 1 (upd (v.2.2 1) (3 * a + c) (p.1 c b))) (setA (setA v 1 (upd (v.2.2 1) (3 * a + c) (p.1 c b))) 1 (upd ((setA v 1 (upd (v.2.2 1) (3 * a + c) (p.1 c b))).2.2 1) (3 * b + c) (p.1 c a))) := KN.A _ _ (by omega) (fun _ _ => rfl)
  refine ⟨_, m2, k1.tr k2, rfl, fun hz => bX9_swap_68 hC ⟨fun h => absurd h (nI_nlt (a := 1) (b := c) (by omega) (by omega)), fun _ => ?_⟩⟩
  rw [ixB, ixB, nI_clamp (show 3 * a + c < 2 ^ 31 by omega), nI_clamp (show 3 * b + c < 2 ^ 31 by omega)]
  refine ⟨vp_in_nI (by omega) (by omega), vp_in_nI (by omega) (by omega), fun s1 e1 => ?_⟩
  rw [va_up_self, hst b hb, stA_up] at e1
  subst e1
  refine ⟨vp_in_nI (by omega) (by omega), vp_in_nI (by omega) (by omega), fun s2 e2 => ?_⟩
  have q0 : (va_up s 20 (setA v 1 (upd (v.2.2 1) (3 * a + c) (p.1 c b))) 20).2.2 0 (3 * a + c) = p.1 c a := by
    rw [va_up_self]
    exact hst a ha
  rw [q0, stA_up] at e2
  subst e2
  rw [nI_1]
  exact hz
theorem mv_swapL {s0 : ZS} {nb nr : Nat} {p : PS} {tl : Nat} {tb : Nat → Int32} {flt : Int32} {sn : Nat} {sa : Nat → Nat → Int32} {K : KT} {H : HT} {tn : Int32} (hM : MR (s0 20) nb nr p tl tb flt sn sa K H tn) {N : Nat} (hN : N ≤ 60) (y : Int32) (hp : PI nb nr p) : ∀ (k a : Nat) (u : OV) (fn ms : Int32), a + k = nb → KM (s0 20) u → ∃ u2, KM (s0 20) u2 ∧ ∀ C : ZC, Zok ad D ia C (d + 6) cX9_swap 8 RX9 (some .int) → Z l ad D ia C (some (.int (swX y (swO p nr N k a fn ms)))) (va_up s 20 u2) 37 [(0, .ref (ad 20 0)), (1, .int (nI N)), (2, .int y), (3, .int ms), (4, .int fn), (5, .int (nI a))] [] (va_up s 20 u) := by
  have h8 := hp.1.1
  have h4 := hp.1.2
  have hnb : ∀ u, KM (s0 20) u → (va_up s 20 u 20).1 3 = nI nb := fun u hu => by
    rw [va_up_self, hu.1 3 (by omega)]
    exact hM.1.1
  have hNR := (sat0.mp hM.2.2.2.1).1.1
  intro k
  induction k with
  | zero =>
    intro a u fn ms ha hu
    refine ⟨u, hu, fun C hC => bX9_swap_37 hC ⟨fun _ => ⟨fun h => ⟨fun h2 => ⟨?_, rfl⟩, fun h2 => ⟨?_, rfl⟩⟩, fun h => ⟨?_, rfl⟩⟩, fun h => ?_⟩⟩
    · show some (Value.int (if fn = -4 then -4 else if y = 0 then fn else ms)) = _
      rw [if_neg h, if_neg h2]
    · show some (Value.int (if fn = -4 then -4 else if y = 0 then fn else ms)) = _
      rw [if_neg h, if_pos h2]
    · show some (Value.int (if fn = -4 then -4 else if y = 0 then fn else ms)) = _
      rw [if_pos h]
    · rw [hnb u hu] at h
      exact absurd (nI_le (by omega) (by omega)) h
  | succ k ih =>
    intro a u fn ms ha hu
    have inner : ∀ (j b : Nat) (u : OV) (fn ms : Int32), b + j = nb → a < b → KM (s0 20) u → ∃ u2, KM (s0 20) u2 ∧ ∀ C : ZC, Zok ad D ia C (d + 6) cX9_swap 8 RX9 (some .int) → Z l ad D ia C (some (.int (swX y (swO p nr N k (a + 1) (swI p nr N a j b fn ms).1 (swI p nr N a j b fn ms).2)))) (va_up s 20 u2) 52 [(0, .ref (ad 20 0)), (1, .int (nI N)), (2, .int y), (3, .int ms), (4, .int fn), (5, .int (nI a)), (6, .int (nI b))] [] (va_up s 20 u) := by
      intro j
      induction j with
      | zero =>
        intro b u fn ms hb hab hu
        obtain ⟨u2, hk2, hz⟩ := ih (a + 1) u fn ms (by omega) hu
        refine ⟨u2, hk2, fun C hC => bX9_swap_52 hC ⟨fun _ => ?_, fun h => ?_⟩⟩
        · rw [nI_1]
          exact hz C hC
        · rw [hnb u hu] at h
          exact absurd (nI_le (by omega) (by omega)) h
      | succ j ih2 =>
        intro b u fn ms hb hab hu
        obtain ⟨v0, e0, hM0, hk0, hst0⟩ := mv_begin (l := l) (ad := ad) (D := D) (ia := ia) (d := d + 5) (s := s0) (s1 := va_up s 20 u) hM (by rw [va_up_self]; exact hu) h8 h4
        rw [up_up] at e0
        have hst : ∀ c, c < 2 → ∀ i, i < nb → v0.2.2 0 (3 * i + c) = p.1 c i := fun c hc i hi => by rw [hst0]; exact hNR c (by omega) i hi
        -- what the two rounds of cells come to does not hang on the frame
        have m1 := hM0.now (hM0.2.1.bw h8 h4 (c := 0) (by omega) (show a < nb by omega) (p.1 0 b))
        have m2 := m1.now (m1.2.1.bw h8 h4 (c := 0) (by omega) (show b < nb by omega) (p.1 0 a))
        have m3 := m2.now (m2.2.1.bw h8 h4 (c := 1) (by omega) (show a < nb by omega) (p.1 1 b))
        have m4 := m3.now (m3.2.1.bw h8 h4 (c := 1) (by omega) (show b < nb by omega) (p.1 1 a))
        rw [sw_m p (show a ≠ b by omega)] at m4
        generalize hv1 : setA v0 1 (upd (v0.2.2 1) (3 * a + 0) (p.1 0 b)) = v1 at m1 m2 m3 m4
        generalize hv2 : setA v1 1 (upd (v1.2.2 1) (3 * b + 0) (p.1 0 a)) = v2 at m2 m3 m4
        generalize hv3 : setA v2 1 (upd (v2.2.2 1) (3 * a + 1) (p.1 1 b)) = v3 at m3 m4
        generalize hv4 : setA v3 1 (upd (v3.2.2 1) (3 * b + 1) (p.1 1 a)) = v4 at m4
        have k1 : KN v0 v1 := by rw [← hv1]; exact KN.A _ _ (by omega) (fun _ _ => rfl)
        have k2 : KN v1 v2 := by rw [← hv2]; exact KN.A _ _ (by omega) (fun _ _ => rfl)
        have k3 : KN v2 v3 := by rw [← hv3]; exact KN.A _ _ (by omega) (fun _ _ => rfl)
        have k4 : KN v3 v4 := by rw [← hv4]; exact KN.A _ _ (by omega) (fun _ _ => rfl)
        have t1 : v1.2.2 0 = v0.2.2 0 := by rw [← hv1]; rfl
        have t2 : v2.2.2 0 = v0.2.2 0 := by rw [← hv2]; exact t1
        have t3 : v3.2.2 0 = v0.2.2 0 := by rw [← hv3]; exact t2
        have hM4b : MM (va_up s 20 v4 20) nb nr (sw p a b) (v0.1 18) (v0.1 19) (v0.1 20) := by rw [va_up_self]; exact m4
        obtain ⟨v5, e5, hM5, hk5⟩ := mv_daysGo (l := l) (ad := ad) (D := D) (ia := ia) (d := d) (N := N) (by omega) hM4b (PI_sw hp (by omega) (by omega))
        rw [up_up] at e5
        rw [va_up_self] at hk5
        have hkm : KM (s0 20) v5 := ((((hk0.tr k1.M).tr k2.M).tr k3.M).tr k4.M).tr hk5.M
        have ef : (va_up s 20 v5 20).1 18 = fS p nr N a b := by rw [va_up_self]; exact hM5.2.2.1
        have walk : ∀ (C : ZC) (X : Option Value) (Y : ZS), Zok ad D ia C (d + 6) cX9_swap 8 RX9 (some .int) → Z l ad D ia C X Y 68 [(0, .ref (ad 20 0)), (1, .int (nI N)), (2, .int y), (3, .int ms), (4, .int fn), (5, .int (nI a)), (6, .int (nI b)), (7, .int (nI 2))] [] (va_up s 20 v4) → Z l ad D ia C X Y 68 [(0, .ref (ad 20 0)), (1, .int (nI N)), (2, .int y), (3, .int ms), (4, .int fn), (5, .int (nI a)), (6, .int (nI b)), (7, .int (nI 0))] [] (va_up s 20 v0) := by
          intro C X Y hC hz
          have step : ∀ (c : Nat) (va vb vc : OV), c < 2 → setA va 1 (upd (va.2.2 1) (3 * a + c) (p.1 c b)) = vb → setA vb 1 (upd (vb.2.2 1) (3 * b + c) (p.1 c a)) = vc → va.2.2 0 = v0.2.2 0 → vb.2.2 0 = v0.2.2 0 → Z l ad D ia C X Y 68 [(0, .ref (ad 20 0)), (1, .int (nI N)), (2, .int y), (3, .int ms), (4, .int fn), (5, .int (nI a)), (6, .int (nI b)), (7, .int (nI (c + 1)))] [] (va_up s 20 vc) → Z l ad D ia C X Y 68 [(0, .ref (ad 20 0)), (1, .int (nI N)), (2, .int y), (3, .int ms), (4, .int fn), (5, .int (nI a)), (6, .int (nI b)), (7, .int (nI c))] [] (va_up s 20 va) := by
            intro c va vb vc hc h1 h2 g1 g2 hz
            refine bX9_swap_68 hC ⟨fun h => absurd h (nI_nlt (a := 1) (b := c) (by omega) (by omega)), fun _ => ?_⟩
            rw [ixB, ixB, nI_clamp (show 3 * a + c < 2 ^ 31 by omega), nI_clamp (show 3 * b + c < 2 ^ 31 by omega)]
            refine ⟨vp_in_nI (by omega) (by omega), vp_in_nI (by omega) (by omega), fun s1 e1 => ?_⟩
            rw [va_up_self, g1, hst c hc b (by omega), stA_up, h1] at e1
            subst e1
            refine ⟨vp_in_nI (by omega) (by omega), vp_in_nI (by omega) (by omega), fun s2 e2 => ?_⟩
            rw [va_up_self, g2, hst c hc a (by omega), stA_up, h2] at e2
            subst e2
            rw [nI_1]
            exact hz
          exact step 0 v0 v1 v2 (by omega) hv1 hv2 rfl t1 (step 1 v2 v3 v4 (by omega) hv3 hv4 t2 t3 hz)
        by_cases c : fS p nr N a b ≤ ms
        · obtain ⟨u2, hk3, hz⟩ := ih2 (b + 1) v5 fn ms (by omega) (by omega) hkm
          have e : swI p nr N a (j + 1) b fn ms = swI p nr N a j (b + 1) fn ms := if_pos c
          rw [e]
          refine ⟨u2, hk3, fun C hC => bX9_swap_52 hC ⟨fun h => ?_, fun _ => ⟨_, e0, walk C _ _ hC (bX9_swap_68 hC ⟨fun _ => ⟨_, e5, fun _ => ⟨fun _ => ?_, fun h => ?_⟩, fun h => ?_⟩, fun h => absurd (by decide) h⟩)⟩⟩⟩
          · rw [hnb u hu] at h
            exact absurd h (nI_ge (by omega) (by omega))
          · rw [nI_1]
            exact hz C hC
          · rw [ef] at h
            exact absurd c h
          · rw [ef] at h
            exact absurd c h
        · obtain ⟨u2, hk3, hz⟩ := ih2 (b + 1) v5 (10 * nI a + nI b) (fS p nr N a b) (by omega) (by omega) hkm
          have e : swI p nr N a (j + 1) b fn ms = swI p nr N a j (b + 1) (10 * nI a + nI b) (fS p nr N a b) := if_neg c
          rw [e]
          refine ⟨u2, hk3, fun C hC => bX9_swap_52 hC ⟨fun h => ?_, fun _ => ⟨_, e0, walk C _ _ hC (bX9_swap_68 hC ⟨fun _ => ⟨_, e5, fun h => ?_, fun _ => ⟨fun h => ?_, fun _ => ?_⟩⟩, fun h => absurd (by decide) h⟩)⟩⟩⟩
          · rw [hnb u hu] at h
            exact absurd h (nI_ge (by omega) (by omega))
          · rw [ef] at h
            exact absurd h c
          · rw [ef] at h
            exact absurd h c
          · rw [ef, nI_1]
            exact hz C hC
    obtain ⟨u2, hk2, hz⟩ := inner k (a + 1) u fn ms (by omega) (by omega) hu
    refine ⟨u2, hk2, fun C hC => bX9_swap_37 hC ⟨fun h => ?_, fun _ => ?_⟩⟩
    · rw [hnb u hu] at h
      exact absurd h (nI_ge (by omega) (by omega))
    · rw [nI_1]
      exact hz C hC
theorem op_swap (hR : RR s) (x y : Int32) : Op l ad D ia s mX8_swap mX9_swap [.int x, .int y] := by
  obtain ⟨nb, nr, p, tl, tb, flt, sn, sa, K, H, tn, hG, hC, hM⟩ := hR
  have hbad : RR s := ⟨nb, nr, p, tl, tb, flt, sn, sa, K, H, tn, hG, hC, hM⟩
  have hp := hG.1.1
  have h8 := hp.1.1
  have h4 := hp.1.2
  have o1 := ev_out0 (l := l) (ad := ad) (D := D) (ia := ia) (d := 8) (s := s) (n := 60) x (y := 60) rfl (by decide)
  have i1 := fun s2 => mv_isFar (l := l) (ad := ad) (D := D) (ia := ia) (d := 7) (s := s2) x
  have o2 := ev_out0 (l := l) (ad := ad) (D := D) (ia := ia) (d := 8) (s := s) (n := 1) y (y := 1) rfl (by decide)
  have i2 := fun s2 => mv_isPart (l := l) (ad := ad) (D := D) (ia := ia) (d := 7) (s := s2) y
  by_cases cx : inN x 61 = true
  · rw [cx] at o1 i1
    by_cases cy : inN y 2 = true
    · rw [cy] at o2 i2
      obtain ⟨N, hN, rfl⟩ := inN_nI cx
      obtain ⟨v1, hb1, hT⟩ := ev_beginTrial (l := l) (ad := ad) (D := D) (ia := ia) (d := 6) (s := s) hC.1 h8 h4
      have hT1 : HR (va_up s 2 v1 2) nb nr p 0 0 := by rw [va_up_self]; exact hT
      obtain ⟨v2, p2, w2, hb2, hT2, -⟩ := ev_tillStill (l := l) (ad := ad) (D := D) (ia := ia) (d := 3) (o := 2) (N := N) rfl (by omega) hT1 hp
      rw [up_up] at hb2
      have ef : (va_up s 2 v2 2).1 12 = (days nr N (p, 0, 0)).2.1 := by rw [va_up_self, hT2.n12]
      obtain ⟨u2, hz⟩ := ev_swapL (l := l) (ad := ad) (D := D) (ia := ia) (d := 3) (s := s) (N := N) (by omega) y hC.1 hp nb 0 v2 (-4) (days nr N (p, 0, 0)).2.1 (by omega)
      have h20 : va_up s 2 u2 20 = s 20 := va_up_ne _ _ (by decide)
      obtain ⟨v0, e0, hM0, hk0, -⟩ := mv_begin (l := l) (ad := ad) (D := D) (ia := ia) (d := 8) (s1 := va_up s 2 u2) hM (KM.eq h20) h8 h4
      have hM0b : MM (va_up (va_up s 2 u2) 20 v0 20) nb nr p (v0.1 18) (v0.1 19) (v0.1 20) := by rw [va_up_self]; exact hM0
      obtain ⟨v3, e3, hM3, hk3⟩ := mv_daysGo (l := l) (ad := ad) (D := D) (ia := ia) (d := 3) (N := N) (by omega) hM0b hp
      rw [up_up] at e3
      rw [va_up_self] at hk3
      have em : (va_up (va_up s 2 u2) 20 v3 20).1 18 = (days nr N (p, 0, 0)).2.1 := by rw [va_up_self]; exact hM3.2.2.1
      obtain ⟨u3, hk4, hz3⟩ := mv_swapL (l := l) (ad := ad) (D := D) (ia := ia) (d := 3) (s := va_up s 2 u2) hM (N := N) (by omega) y hp nb 0 v3 (-4) (days nr N (p, 0, 0)).2.1 (by omega) (hk0.tr hk3.M)
      refine ⟨.int (swX y (swO p nr N nb 0 (-4) (days nr N (p, 0, 0)).2.1)), _, _, eX8_swap (fun C hZ => ⟨_, _, o1, fun h => absurd rfl h, fun _ => ⟨_, _, o2, fun _ => ⟨_, hb1, _, hb2, ?_⟩, fun h => absurd rfl h⟩⟩), eX9_swap (fun C hZ => ⟨_, _, i1 _, fun h => absurd h (by decide), fun _ => ⟨_, _, i2 _, fun _ => ⟨_, e0, _, e3, ?_⟩, fun h => absurd h (by decide)⟩⟩), RR_sc hG hC hM (KC.up (o := 2) (v := u2) (by decide)) hk4⟩
      · rw [ef]
        exact hz C hZ
      · rw [em]
        exact hz3 C hZ
    · rw [bool_f cy] at o2 i2
      exact ⟨.int (-1), _, _, eX8_swap (fun C hZ => ⟨_, _, o1, fun h => absurd rfl h, fun _ => ⟨_, _, o2, fun h => absurd h (by decide), fun _ => ⟨rfl, rfl⟩⟩⟩), eX9_swap (fun C hZ => ⟨_, _, i1 _, fun h => absurd h (by decide), fun _ => ⟨_, _, i2 _, fun h => absurd rfl h, fun _ => ⟨rfl, rfl⟩⟩⟩), hbad⟩
  · rw [bool_f cx] at o1 i1
    exact ⟨.int (-1), _, _, eX8_swap (fun C hZ => ⟨_, _, o1, fun _ => ⟨rfl, rfl⟩, fun h => absurd h (by decide)⟩), eX9_swap (fun C hZ => ⟨_, _, i1 _, fun _ => ⟨rfl, rfl⟩, fun h => absurd rfl h⟩), hbad⟩
end OR
