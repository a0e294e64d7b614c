/-- the minutes of N days when the steps stand at v -/
def mtV (p : PS) (nr N v : Nat) : Int32 := (days nr N (pz p 0 (nI v), 0, 0)).1.2 1 - p.2 1
def srL (p : PS) (nr N : Nat) : Nat → Nat → Int32 → Int32 → Int32 × Int32
  | 0, _, fn, ls => (fn, ls)
  | k + 1, v, fn, ls => if ls ≤ mtV p nr N v then srL p nr N k (v + 1) fn ls else srL p nr N k (v + 1) (nI v) (mtV p nr N v)
theorem mtV_lt {nb nr N v : Nat} {p : PS} (h : PC nb nr p) (hN : N ≤ 60) (hv : v ≤ 7) : ¬ (1000000 : Int32) ≤ mtV p nr N v := by
  have h4 := h.1.1.2
  have hpc : PC nb nr (pz p 0 (nI v)) := ⟨h.1, h.2.1, h.2.2.1, ⟨v, by omega, hv, rfl⟩⟩
  obtain ⟨-, ⟨t, ht, et⟩, -⟩ := days_bnd N (q := (pz p 0 (nI v), (0 : Int32), (0 : Int32))) hpc
  have ht2 : t ≤ 387 * 4 * 60 := Nat.le_trans ht (Nat.mul_le_mul (Nat.mul_le_mul_left 387 h4) hN)
  have e : mtV p nr N v = nI t := by
    unfold mtV
    rw [et]
    show p.2 1 + nI t - p.2 1 = _
    grind
  rw [e]
  exact nI_ge (a := t) (b := 1000000) (by omega) (by omega)
theorem srL_fst {nb nr N : Nat} {p : PS} (h : PC nb nr p) (hN : N ≤ 60) (a b : Int32) : srL p nr N 8 0 a 1000000 = srL p nr N 8 0 b 1000000 := by
  have e : ∀ a, srL p nr N 8 0 a 1000000 = srL p nr N 7 1 (nI 0) (mtV p nr N 0) := fun a => if_neg (mtV_lt h hN (by omega))
  rw [e a, e b]
section OP
variable {l : Launch} {ad : ZA} {D : va_G} {ia : Nat → ClassId} {d nb nr r b o o1 : Nat} {s : ZS} {p : PS} {f m w : Int32}
theorem ev_startL {N : Nat} (hN : N ≤ 60) (y : Int32) (hH1 : HQ (s 1) nb nr p) (hp : PI nb nr p) : ∀ (k v : Nat) (u : OV) (fn ls : Int32), v + k = 8 → ∃ u2, ∀ C : ZC, Zok ad D ia C (d + 6) cX8_start 6 RX8 (some .int) → Z l ad D ia C (some (.int (if y = 0 then (srL p nr N k v fn ls).1 else (srL p nr N k v fn ls).2))) (va_up s 2 u2) 31 [(0, .ref (ad 0 0)), (1, .int (nI N)), (2, .int y), (3, .int fn), (4, .int ls), (5, .int (nI v))] [] (va_up s 2 u) := by
  have h8 := hp.1.1
  have h4 := hp.1.2
  intro k
  induction k with
  | zero =>
    intro v u fn ls hv
    refine ⟨u, fun C hC => bX8_start_31 hC ⟨fun _ => ⟨fun h => ⟨?_, rfl⟩, fun h => ⟨?_, rfl⟩⟩, fun h => absurd (nI_lt (a := 7) (b := v) (by omega) (by omega)) h⟩⟩
    · rw [if_neg h]
      rfl
    · rw [if_pos h]
      rfl
  | succ k ih =>
    intro v u fn ls hv
    have hq : HQ (va_up s 2 u 1) nb nr p := by rw [va_up_ne _ _ (by decide)]; exact hH1
    obtain ⟨v1, hb1, hT⟩ := ev_beginTrial (l := l) (ad := ad) (D := D) (ia := ia) (d := d + 3) (s := va_up s 2 u) hq h8 h4
    rw [up_up] at hb1
    have hT1 := hT.s9 (nI v)
    have hT2 : HR (va_up s 2 (setI v1 9 (nI v)) 2) nb nr (pz p 0 (nI v)) 0 0 := by rw [va_up_self]; exact hT1
    obtain ⟨v2, p2, w2, hb2, hH2, eck⟩ := ev_tillStill (l := l) (ad := ad) (D := D) (ia := ia) (d := d) (o := 2) (N := N) rfl hN hT2 hp
    rw [up_up] at hb2
    have htm : Ev l ad D ia (d + 5) mX8_trialMinutes [.ref (ad 0 0)] (va_up s 2 v2) (some (.int (mtV p nr N v))) (va_up s 2 v2) := by
      refine eX8_trialMinutes ⟨?_, rfl⟩
      obtain ⟨f, w, hH⟩ := hH1
      rw [va_up_self, va_up_ne _ _ (by decide), hH2.n10, hH.n10, eck]
      rfl
    have hnl : ¬ (7 : Int32) < nI v := nI_nlt (a := 7) (b := v) (by omega) (by omega)
    by_cases c : ls ≤ mtV p nr N v
    · obtain ⟨u2, hz⟩ := ih (v + 1) v2 fn ls (by omega)
      have e : srL p nr N (k + 1) v fn ls = srL p nr N k (v + 1) fn ls := if_pos c
      rw [e]
      refine ⟨u2, fun C hC => bX8_start_31 hC ⟨fun h => absurd h hnl, fun _ => ⟨_, hb1, fun s1 e1 => ⟨va_up s 2 v2, ?_, _, _, htm, fun _ => ?_, fun h => absurd c h⟩⟩⟩⟩
      · rw [stI_up] at e1
        subst e1
        exact hb2
      · rw [nI_1]
        exact hz C hC
    · obtain ⟨u2, hz⟩ := ih (v + 1) v2 (nI v) (mtV p nr N v) (by omega)
      have e : srL p nr N (k + 1) v fn ls = srL p nr N k (v + 1) (nI v) (mtV p nr N v) := if_neg c
      rw [e]
      refine ⟨u2, fun C hC => bX8_start_31 hC ⟨fun h => absurd h hnl, fun _ => ⟨_, hb1, fun s1 e1 => ⟨va_up s 2 v2, ?_, _, _, htm, fun h => absurd h c, fun _ => ⟨_, _, htm, ?_⟩⟩⟩⟩⟩
      · rw [stI_up] at e1
        subst e1
        exact hb2
      · rw [nI_1]
        exact hz C hC
theorem mv_lesser (x y : Int32) : Ev l ad D ia d mX9_lesser [.int x, .int y] s (some (.int (if y ≤ x then y else x))) s := by
  refine eX9_lesser ⟨fun h => ⟨?_, rfl⟩, fun h => ⟨?_, rfl⟩⟩
  · rw [if_pos h]
  · rw [if_neg h]
theorem mv_startL {s0 : ZS} {nb nr : Nat} {p : PS} {tl : Nat} {tb : Nat → Int32} {flt : Int32} {sn : Nat} {sa : Nat → Nat → Int32} {K : KT} {H : HT} {tn : Int32} (hM : MR (s0 20) nb nr p tl tb flt sn sa K H tn) {N : Nat} (hN : N ≤ 60) (y : Int32) (hp : PI nb nr p) : ∀ (k v : Nat) (u : OV) (fn ls : Int32), v + k = 8 → KM (s0 20) u → ∃ u2, KM (s0 20) u2 ∧ ∀ C : ZC, Zok ad D ia C (d + 6) cX9_start 6 RX9 (some .int) → Z l ad D ia C (some (.int (if y = 0 then (srL p nr N k v fn ls).1 else (srL p nr N k v fn ls).2))) (va_up s 20 u2) 26 [(0, .ref (ad 20 0)), (1, .int (nI N)), (2, .int y), (3, .int ls), (4, .int fn), (5, .int (nI v))] [] (va_up s 20 u) := by
  have h8 := hp.1.1
  have h4 := hp.1.2
  intro k
  induction k with
  | zero =>
    intro v u fn ls hv hu
    refine ⟨u, hu, fun C hC => bX9_start_26 hC ⟨fun _ => ⟨fun h => ⟨?_, rfl⟩, fun h => ⟨?_, rfl⟩⟩, fun h => absurd (nI_le (a := 8) (b := v) (by omega) (by omega)) h⟩⟩
    · rw [if_neg h]
      rfl
    · rw [if_pos h]
      rfl
  | succ k ih =>
    intro v u fn ls hv hu
    obtain ⟨v0, e0, hM0, hk0, -⟩ := mv_begin (l := l) (ad := ad) (D := D) (ia := ia) (d := d + 5) (s := s0) (s1 := va_up s 20 u) hM (by rw [va_up_self]; exact hu) h8 h4
    rw [up_up] at e0
    have hM1 := hM0.now (hM0.2.1.num h8 h4 (j := 0) (by decide) (nI v))
    have hk1 : KN v0 (setA v0 1 (upd (v0.2.2 1) (40 + 0) (nI v))) := KN.A _ _ (by omega) (fun _ _ => rfl)
    have hM1b : MM (va_up s 20 (setA v0 1 (upd (v0.2.2 1) (40 + 0) (nI v))) 20) nb nr (pz p 0 (nI v)) (v0.1 18) (v0.1 19) (v0.1 20) := by rw [va_up_self]; exact hM1
    obtain ⟨v2, e2, hM2, hk2⟩ := mv_daysGo (l := l) (ad := ad) (D := D) (ia := ia) (d := d) (N := N) (by omega) hM1b (p := pz p 0 (nI v)) hp
    rw [up_up] at e2
    rw [va_up_self] at hk2
    have hkm : KM (s0 20) v2 := (hk0.tr hk1.M).tr hk2.M
    have em : (va_up s 20 v2 20).1 19 = mtV p nr N v := by rw [va_up_self]; exact hM2.2.2.2.1
    have hnl : ¬ (8 : Int32) ≤ nI v := nI_ge (a := v) (b := 8) (by omega) (by omega)
    by_cases c : ls ≤ mtV p nr N v
    · obtain ⟨u2, hk3, hz⟩ := ih (v + 1) v2 fn ls (by omega) hkm
      have e : srL p nr N (k + 1) v fn ls = srL p nr N k (v + 1) fn ls := if_pos c
      rw [e]
      refine ⟨u2, hk3, fun C hC => bX9_start_26 hC ⟨fun h => absurd h hnl, fun _ => ⟨_, e0, vp_in_nI (n := 40) (by decide) (by decide), fun s1 e1 => ⟨va_up s 20 v2, ?_, fun _ => ⟨_, _, mv_lesser _ _, ?_⟩, fun h => ?_⟩⟩⟩⟩
      · rw [c40, stA_up] at e1
        subst e1
        exact e2
      · rw [em, if_pos c, nI_1]
        exact hz C hC
      · rw [em] at h
        exact absurd c h
    · obtain ⟨u2, hk3, hz⟩ := ih (v + 1) v2 (nI v) (mtV p nr N v) (by omega) hkm
      have e : srL p nr N (k + 1) v fn ls = srL p nr N k (v + 1) (nI v) (mtV p nr N v) := if_neg c
      rw [e]
      refine ⟨u2, hk3, fun C hC => bX9_start_26 hC ⟨fun h => absurd h hnl, fun _ => ⟨_, e0, vp_in_nI (n := 40) (by decide) (by decide), fun s1 e1 => ⟨va_up s 20 v2, ?_, fun h => ?_, fun _ => ⟨_, _, mv_lesser _ _, ?_⟩⟩⟩⟩⟩
      · rw [c40, stA_up] at e1
        subst e1
        exact e2
      · rw [em] at h
        exact absurd h c
      · rw [em, if_neg c, nI_1]
        exact hz C hC
theorem op_start (hR : RR s) (x y : Int32) : Op l ad D ia s mX8_start mX9_start [.int x, .int y] := by
  obtain ⟨nb, nr, p, tl, tb, flt, sn, sa, K, H, tn, hG, hC, hM⟩ := hR
  have hbad : RR s := ⟨nb, nr, p, tl, tb, flt, sn, sa, K, H, tn, hG, hC, hM⟩
  have hp := hG.1.1
  have h8 := hp.1.1
  have h4 := hp.1.2
  have o1 := ev_out0 (l := l) (ad := ad) (D := D) (ia := ia) (d := 8) (s := s) (n := 60) x (y := 60) rfl (by decide)
  have i1 := fun s2 => mv_isFar (l := l) (ad := ad) (D := D) (ia := ia) (d := 7) (s := s2) x
  have o2 := ev_out0 (l := l) (ad := ad) (D := D) (ia := ia) (d := 8) (s := s) (n := 1) y (y := 1) rfl (by decide)
  have i2 := fun s2 => mv_isPart (l := l) (ad := ad) (D := D) (ia := ia) (d := 7) (s := s2) y
  by_cases cx : inN x 61 = true
  · rw [cx] at o1 i1
    by_cases cy : inN y 2 = true
    · rw [cy] at o2 i2
      obtain ⟨N, hN, rfl⟩ := inN_nI cx
      obtain ⟨u2, hz⟩ := ev_startL (l := l) (ad := ad) (D := D) (ia := ia) (d := 3) (s := s) (N := N) (by omega) y hC.1 hp 8 0 (s 2) (-4) 1000000 (by omega)
      rw [up_id, srL_fst hG.1.C (by omega) (-4) 0] at hz
      have h20 : va_up s 2 u2 20 = s 20 := va_up_ne _ _ (by decide)
      obtain ⟨u3, hk3, hz3⟩ := mv_startL (l := l) (ad := ad) (D := D) (ia := ia) (d := 3) (s := va_up s 2 u2) hM (N := N) (by omega) y hp 8 0 (va_up s 2 u2 20) 0 1000000 (by omega) (KM.eq h20)
      rw [up_id] at hz3
      exact ⟨.int (if y = 0 then (srL p nr N 8 0 0 1000000).1 else (srL p nr N 8 0 0 1000000).2), _, _, eX8_start (fun C hZ => ⟨_, _, o1, fun h => absurd rfl h, fun _ => ⟨_, _, o2, fun _ => hz C hZ, fun h => absurd rfl h⟩⟩), eX9_start (fun C hZ => ⟨_, _, i1 _, fun h => absurd h (by decide), fun _ => ⟨_, _, i2 _, fun _ => hz3 C hZ, fun h => absurd h (by decide)⟩⟩), RR_sc hG hC hM (KC.up (o := 2) (v := u2) (by decide)) hk3⟩
    · rw [bool_f cy] at o2 i2
      exact ⟨.int (-1), _, _, eX8_start (fun C hZ => ⟨_, _, o1, fun h => absurd rfl h, fun _ => ⟨_, _, o2, fun h => absurd h (by decide), fun _ => ⟨rfl, rfl⟩⟩⟩), eX9_start (fun C hZ => ⟨_, _, i1 _, fun h => absurd h (by decide), fun _ => ⟨_, _, i2 _, fun h => absurd rfl h, fun _ => ⟨rfl, rfl⟩⟩⟩), hbad⟩
  · rw [bool_f cx] at o1 i1
    exact ⟨.int (-1), _, _, eX8_start (fun C hZ => ⟨_, _, o1, fun _ => ⟨rfl, rfl⟩, fun h => absurd h (by decide)⟩), eX9_start (fun C hZ => ⟨_, _, i1 _, fun _ => ⟨rfl, rfl⟩, fun h => absurd rfl h⟩), hbad⟩
end OP
