/-! BOUNDS: what a day may do to the library -/
theorem mns_rng {p : PS} {r b : Nat} (h0 : rng (p.1 0 b) 0 7) (h1 : ∃ h, h ≤ 9 ∧ p.1 1 b = nI h) (h3 : rng (p.1 3 r) 0 3) (hs : rng (p.2 0) 0 7) : ∃ t, t ≤ 43 ∧ mns p r b = nI t := by
  obtain ⟨a, -, ha, ea⟩ := h0
  obtain ⟨h, hh, eh⟩ := h1
  obtain ⟨k, -, hk, ek⟩ := h3
  obtain ⟨c, -, hc, ec⟩ := hs
  unfold mns
  rw [ea, eh, ek, ec]
  have hd : ∀ (a c : Fin 8) (h : Fin 10) (k : Fin 4), inN (mabs (nI a - nI c) + 2 * clm (nI k) (nI h)) 44 = true := by decide +kernel
  obtain ⟨t, ht, e⟩ := inN_nI (hd ⟨a, by omega⟩ ⟨c, by omega⟩ ⟨h, by omega⟩ ⟨k, by omega⟩)
  exact ⟨t, by omega, e⟩
theorem had_rng {x : Int32} {b : Nat} (h : rng x 0 255) (hb : b < 8) : rng (x ||| (1 <<< (nI b &&& 31))) 0 255 := by
  obtain ⟨k, -, hk, rfl⟩ := h
  have hd : ∀ (k : Fin 256) (b : Fin 8), inN (nI k ||| (1 <<< (nI b &&& 31))) 256 = true := by decide +kernel
  exact rng_in (hd ⟨k, by omega⟩ ⟨b, hb⟩)
/-- the bounds but for the clock and the day -/
def PC (nb nr : Nat) (p : PS) : Prop := PI nb nr p ∧ (∀ b, b < nb → rng (p.1 0 b) 0 7) ∧ (∀ r, r < nr → rng (p.1 3 r) 0 3 ∧ rng (p.1 5 r) 1 99 ∧ rng (p.1 6 r) 0 255) ∧ rng (p.2 0) 0 7
theorem PB.C {nb nr : Nat} {p : PS} (h : PB nb nr p) : PC nb nr p := ⟨h.1, h.2.1, h.2.2.1, h.2.2.2.1⟩
theorem PC.B {nb nr : Nat} {p : PS} (h : PC nb nr p) (h1 : rng (p.2 1) 0 9999) (h2 : rng (p.2 2) 0 999) : PB nb nr p := ⟨h.1, h.2.1, h.2.2.1, h.2.2.2, h1, h2⟩
theorem PC_want {nb nr : Nat} {p : PS} {r : Nat} {x : Int32} (h : PC nb nr p) (hx : okB nb x) : PC nb nr (pr p 4 r x) := by
  refine ⟨PI_want h.1 hx, fun b hb => ?_, fun q hq => ?_, h.2.2.2⟩
  · rw [pr_sta (by decide)]
    exact h.2.1 b hb
  · rw [pr_sta (by decide), pr_sta (by decide), pr_sta (by decide)]
    exact h.2.2.1 q hq
theorem PC_fet {nb nr : Nat} {p : PS} {r b : Nat} (h : PC nb nr p) (hb : b < nb) : PC nb nr (fet p r b) := by
  have h8 := h.1.1.1
  refine ⟨PI_fet h.1, fun b hb => ?_, fun q hq => ?_, h.2.1 b hb⟩
  · rw [fet_row (by decide)]
    exact h.2.1 b hb
  · rw [fet_row (by decide), fet_row (by decide)]
    refine ⟨(h.2.2.1 q hq).1, (h.2.2.1 q hq).2.1, ?_⟩
    by_cases e : q = r
    · subst e
      unfold fet
      rw [pr_self]
      exact had_rng (h.2.2.1 q hq).2.2 (by omega)
    · unfold fet
      rw [pr_row e]
      exact (h.2.2.1 q hq).2.2
theorem nI_sum (a : Int32) (t u : Nat) : a + nI t + nI u = a + nI (t + u) := by
  rw [← nI_add]
  grind
theorem gd_bnd {nb nr : Nat} : ∀ (n : Nat) {p : PS} {r : Nat} {z f w : Int32}, PC nb nr p → r < nr → PC nb nr (gd n p r z f w).1 ∧ (∃ t, t ≤ 43 * n ∧ (gd n p r z f w).1.2 1 = p.2 1 + nI t) ∧ (gd n p r z f w).1.2 2 = p.2 2
  | 0, p, r, z, f, w, h, hr => ⟨h, ⟨0, by omega, by rw [nI_0, Int32.add_zero]; rfl⟩, rfl⟩
  | n + 1, p, r, z, f, w, h, hr => by
    unfold gd
    by_cases c1 : p.1 4 r = -4
    · rw [if_pos c1]
      exact ⟨h, ⟨0, by omega, by rw [nI_0, Int32.add_zero]⟩, rfl⟩
    · rw [if_neg c1]
      obtain ⟨hb, -⟩ := okB_bk (h.1.2.2.1 r hr) c1 h.1.1.1
      by_cases c2 : hadq p r (bk (p.1 4 r)) = 0
      · rw [if_pos c2]
        by_cases c3 : z + dzz (p.1 3 r) (p.1 1 (bk (p.1 4 r))) ≤ p.1 5 r
        · rw [if_pos c3]
          obtain ⟨k1, ⟨t, ht, et⟩, k3⟩ := gd_bnd n (p := pr (fet p r (bk (p.1 4 r))) 4 r (p.1 2 (bk (p.1 4 r)))) (r := r) (z := z + dzz (p.1 3 r) (p.1 1 (bk (p.1 4 r)))) (f := f + 1) (w := w) (PC_want (PC_fet h hb) (h.1.2.1 _ hb)) hr
          obtain ⟨u, hu, eu⟩ := mns_rng (h.2.1 _ hb) (h.1.2.2.2 _ hb) (h.2.2.1 r hr).1 h.2.2.2
          refine ⟨k1, ⟨u + t, by omega, ?_⟩, k3⟩
          rw [et]
          show p.2 1 + mns p r (bk (p.1 4 r)) + nI t = _
          rw [eu, nI_sum]
        · rw [if_neg c3]
          exact ⟨h, ⟨0, by omega, by rw [nI_0, Int32.add_zero]⟩, rfl⟩
      · rw [if_neg c2]
        exact ⟨PC_want h okB_n4, ⟨0, by omega, by rw [nI_0, Int32.add_zero]; rfl⟩, rfl⟩
theorem dyR_bnd {nb nr : Nat} : ∀ (k r : Nat) {p : PS} {f w : Int32}, PC nb nr p → r + k ≤ nr → PC nb nr (dyR k r p f w).1 ∧ (∃ t, t ≤ 387 * k ∧ (dyR k r p f w).1.2 1 = p.2 1 + nI t) ∧ (dyR k r p f w).1.2 2 = p.2 2
  | 0, r, p, f, w, h, _ => ⟨h, ⟨0, by omega, by rw [nI_0, Int32.add_zero]; rfl⟩, rfl⟩
  | k + 1, r, p, f, w, h, hr => by
    obtain ⟨a1, ⟨t, ht, et⟩, a3⟩ := gd_bnd 9 (p := p) (r := r) (z := 0) (f := f) (w := w) h (by omega)
    obtain ⟨b1, ⟨u, hu, eu⟩, b3⟩ := dyR_bnd k (r + 1) (f := (gd 9 p r 0 f w).2.1) (w := (gd 9 p r 0 f w).2.2.1) a1 (by omega)
    refine ⟨b1, ⟨t + u, by omega, ?_⟩, b3.trans a3⟩
    show (dyR k (r + 1) (gd 9 p r 0 f w).1 (gd 9 p r 0 f w).2.1 (gd 9 p r 0 f w).2.2.1).1.2 1 = _
    rw [eu, et, nI_sum]
theorem PC_num2 {nb nr : Nat} {p : PS} {x : Int32} (h : PC nb nr p) : PC nb nr (pz p 2 x) := h
theorem day_bnd {nb nr : Nat} {q : PS × Int32 × Int32} (h : PC nb nr q.1) : PC nb nr (day nr q).1 ∧ (∃ t, t ≤ 387 * nr ∧ (day nr q).1.2 1 = q.1.2 1 + nI t) ∧ (day nr q).1.2 2 = q.1.2 2 + 1 := by
  obtain ⟨b1, ⟨u, hu, eu⟩, b3⟩ := dyR_bnd nr 0 (f := q.2.1) (w := q.2.2) h (by omega)
  refine ⟨PC_num2 b1, ⟨u, hu, eu⟩, ?_⟩
  show (dyR nr 0 q.1 q.2.1 q.2.2).1.2 2 + 1 = _
  rw [b3]
theorem days_bnd {nb nr : Nat} : ∀ (n : Nat) {q : PS × Int32 × Int32}, PC nb nr q.1 → PC nb nr (days nr n q).1 ∧ (∃ t, t ≤ 387 * nr * n ∧ (days nr n q).1.2 1 = q.1.2 1 + nI t) ∧ (days nr n q).1.2 2 = q.1.2 2 + nI n
  | 0, q, h => ⟨h, ⟨0, by omega, by rw [nI_0, Int32.add_zero]; rfl⟩, by rw [nI_0, Int32.add_zero]; rfl⟩
  | n + 1, q, h => by
    obtain ⟨a1, ⟨t, ht, et⟩, a3⟩ := day_bnd h
    obtain ⟨b1, ⟨u, hu, eu⟩, b3⟩ := days_bnd n a1
    refine ⟨b1, ⟨t + u, ?_, ?_⟩, ?_⟩
    · rw [Nat.mul_add]
      omega
    · show (days nr n (day nr q)).1.2 1 = _
      rw [eu, et, nI_sum]
    · show (days nr n (day nr q)).1.2 2 = _
      rw [b3, a3]
      show q.1.2 2 + nI 1 + nI n = _
      rw [nI_sum, Nat.add_comm]
section OI
variable {l : Launch} {ad : ZA} {D : va_G} {ia : Nat → ClassId} {d nb nr r b o o1 : Nat} {s : ZS} {p : PS} {f m w : Int32}
theorem op_lay (hR : RR s) (x y z : Int32) : Op l ad D ia s mX8_lay mX9_lay [.int x, .int y, .int z] := by
  obtain ⟨nb, nr, p, tl, tb, flt, sn, sa, K, H, tn, hG, hC, hM⟩ := hR
  have hbad : RR s := ⟨nb, nr, p, tl, tb, flt, sn, sa, K, H, tn, hG, hC, hM⟩
  have o1 := ev_out0 (l := l) (ad := ad) (D := D) (ia := ia) (d := 8) (s := s) (n := 3) x (y := 3) rfl (by decide)
  have hS := fun s2 => mv_isSheet (l := l) (ad := ad) (D := D) (ia := ia) (d := 7) (s := s2) x 0
  have e03 : inN 0 3 = true := by decide
  by_cases cx : inN x 4 = true
  · rw [cx] at o1
    rw [cx, e03] at hS
    obtain ⟨k, hk, rfl⟩ := inN_nI cx
    have hcl := nI_clamp (show k < 2 ^ 31 by omega)
    have hin := vp_in_nI hk (show 4 < 2 ^ 31 by decide)
    have hz := zc12 hk
    obtain ⟨cs1, cs2, cs3⟩ := hC.2.2.2.2.2 k hk
    obtain ⟨ms1, ms2, ms3⟩ := hM.2.2.2.2.2 k hk
    obtain ⟨gl, n, -, hn, gn⟩ := hG.2.2.2.2 k hk
    rw [gn] at cs2 ms2
    have hfa := ev_faultAt (l := l) (ad := ad) (D := D) (ia := ia) (d := 7) (s := s) (o := 12 + k) hz (q := H k) (n := n) cs1 cs2 hn (H k).1 y
    by_cases c4 : (H k).1 = -4
    · refine ⟨.int (-11), s, s, eX8_lay ⟨_, _, o1, fun _ => ?_, fun h => absurd rfl h⟩, eX9_lay ⟨_, _, hS _, fun _ => ?_, fun h => absurd h (by decide)⟩, hbad⟩
      · rw [hcl, cs1]
        refine ⟨hin, hz, _, _, hfa, fun h => ?_, fun h => ⟨?_, rfl⟩⟩
        · unfold shF at h
          rw [if_pos c4] at h
          exact absurd h (by decide)
        · unfold shF
          rw [if_pos c4]
          decide
      · rw [hcl, ms1]
        exact ⟨hin, fun h => absurd c4 h, fun _ => ⟨rfl, rfl⟩⟩
    · have hi := fun s2 (h : (s2 20).2.2 30 k = nI n) => mv_in0 (l := l) (ad := ad) (D := D) (ia := ia) (d := 8) (s := s2) y (n := n) (z := 0) (c := ((s2 20).2.2 30 k - 1).toInt64) (by decide) (by rw [i64_toInt, h, pred_toInt (by omega)])
      by_cases cy : inN y n = true
      · have hf0 : shF (H k) n (H k).1 y = 0 := by
          unfold shF
          rw [if_neg c4, if_pos rfl, cy]
          rfl
        rw [hf0] at hfa
        rw [cy] at hi
        obtain ⟨i, hi2, rfl⟩ := inN_nI cy
        have hcli := nI_clamp (show i < 2 ^ 31 by omega)
        have hin40 := vp_in_nI (show i < 40 by omega) (show 40 < 2 ^ 31 by decide)
        obtain ⟨u, hu⟩ : ∃ u : Int32, u = if (H k).1 = 0 then z.toInt8.toInt32 else if (H k).1 = 1 then z.toInt16.toInt32 else z := ⟨_, rfl⟩
        have hput : Ev l ad D ia 8 mX5_put [.ref (ad (12 + k) 0), .int (nI i), .int z] s none (va_up s (12 + k) (setA (s (12 + k)) 2 (upd ((s (12 + k)).2.2 2) i u))) := by
          refine eX5_put hz ?_
          rw [cs1, hcli]
          refine ⟨fun h => ⟨hin40, fun s1 e1 => ⟨rfl, ?_⟩⟩, fun h => ⟨hin40, fun s1 e1 => ⟨rfl, ?_⟩⟩, fun h => ⟨hin40, fun s1 e1 => ⟨rfl, ?_⟩⟩⟩
          · rw [e1, hu, if_pos h]; rfl
          · rw [e1, hu, if_neg (by rw [h]; decide), if_pos h]; rfl
          · rw [e1, hu, if_neg h.1, if_neg h.2]; rfl
        have h20 : ∀ v, va_up s (12 + k) v 20 = s 20 := fun v => va_up_ne _ _ (by omega)
        have e40 : 40 * nI k + nI i = nI (40 * k + i) := by
          show nI 40 * nI k + nI i = _
          rw [nI_mul, nI_add]
        have hin160 := vp_in_nI (show 40 * k + i < 160 by omega) (show 160 < 2 ^ 31 by decide)
        have hmod : ∀ v, Ev l ad D ia 9 mX9_lay [.ref (ad 20 0), .int (nI k), .int (nI i), .int z] (va_up s (12 + k) v) (some (.int 1)) (va_up (va_up s (12 + k) v) 20 (setA (s 20) 31 (upd ((s 20).2.2 31) (40 * k + i) u))) := by
          intro v
          refine eX9_lay ⟨_, _, hS _, fun _ => ?_, fun h => absurd h (by decide)⟩
          rw [hcl, h20, ms1]
          have hi9 := hi (va_up s (12 + k) v) (by rw [h20]; exact ms2)
          rw [h20] at hi9
          refine ⟨hin, fun _ => ⟨hin, _, _, hi9, fun _ => ?_, fun h => ?_⟩, fun h => absurd h c4⟩
          · rw [h20, ms1, e40, nI_clamp (show 40 * k + i < 2 ^ 31 by omega)]
            have est : ∀ y, stA (va_up s (12 + k) v) 20 31 (40 * k + i) y = va_up (va_up s (12 + k) v) 20 (setA (s 20) 31 (upd ((s 20).2.2 31) (40 * k + i) y)) := fun y => by unfold stA; rw [h20]
            refine ⟨hin, fun h0 => ⟨hin, fun h1 => ⟨hin160, fun s1 e1 => ⟨rfl, ?_⟩⟩, fun h1 => ⟨hin160, fun s1 e1 => ⟨rfl, ?_⟩⟩⟩, fun h0 => ⟨hin160, fun s1 e1 => ⟨rfl, ?_⟩⟩⟩
            · rw [e1, est, hu, if_neg h0, if_neg h1]
            · rw [e1, est, hu, if_neg h0, if_pos h1]
            · rw [e1, est, hu, if_pos h0]
          · exact absurd h (by decide)
        refine ⟨.int 1, va_up s (12 + k) (setA (s (12 + k)) 2 (upd ((s (12 + k)).2.2 2) i u)), _, eX8_lay ⟨_, _, o1, fun _ => ?_, fun h => absurd rfl h⟩, hmod (setA (s (12 + k)) 2 (upd ((s (12 + k)).2.2 2) i u)), nb, nr, p, tl, tb, flt, sn, sa, K, va_up H k ((H k).1, (H k).2.1, upd (H k).2.2 i u), tn, ⟨hG.1, hG.2.1, hG.2.2.1, hG.2.2.2.1, fun j hj => ?_⟩, CR_20 (CR_sh hk hC ⟨cs1, cs2.trans gn.symm, fun j hj => ?_⟩), ?_⟩
        · rw [hcl, cs1]
          exact ⟨hin, hz, _, _, hfa, fun _ => ⟨_, hput, rfl, rfl⟩, fun h => absurd rfl h⟩
        · by_cases e : j = k
          · rw [e, va_up_self]
            exact hG.2.2.2.2 k hk
          · rw [va_up_ne _ _ e]
            exact hG.2.2.2.2 j hj
        · show upd ((s (12 + k)).2.2 2) i u j = upd (H k).2.2 i u j
          by_cases e : j = i
          · rw [e, upd_self, upd_self]
          · rw [upd_ne _ _ e, upd_ne _ _ e]
            exact cs3 j hj
        · rw [va_up_self]
          obtain ⟨q1, q2, q3, q4, q5, q6⟩ := hM
          refine ⟨q1, q2, q3, q4, q5, fun j hj => ?_⟩
          obtain ⟨g1, g2, g3⟩ := q6 j hj
          by_cases e : j = k
          · subst e
            rw [va_up_self]
            refine ⟨g1, g2, fun i2 hi3 => ?_⟩
            show upd ((s 20).2.2 31) (40 * j + i) u (40 * j + i2) = upd (H j).2.2 i u i2
            by_cases e2 : i2 = i
            · rw [e2, upd_self, upd_self]
            · rw [upd_ne _ _ (by omega), upd_ne _ _ e2]
              exact g3 i2 hi3
          · rw [va_up_ne _ _ e]
            refine ⟨g1, g2, fun i2 hi3 => ?_⟩
            show upd ((s 20).2.2 31) (40 * k + i) u (40 * j + i2) = _
            rw [upd_ne _ _ (by omega)]
            exact g3 i2 hi3
      · have hf0 : shF (H k) n (H k).1 y = 2 := by
          unfold shF
          rw [if_neg c4, if_pos rfl, bool_f cy]
          rfl
        rw [hf0] at hfa
        rw [bool_f cy] at hi
        refine ⟨.int (-12), s, s, eX8_lay ⟨_, _, o1, fun _ => ?_, fun h => absurd rfl h⟩, eX9_lay ⟨_, _, hS _, fun _ => ?_, fun h => absurd h (by decide)⟩, hbad⟩
        · rw [hcl, cs1]
          exact ⟨hin, hz, _, _, hfa, fun h => absurd h (by decide), fun h => ⟨by decide, rfl⟩⟩
        · rw [hcl, ms1]
          exact ⟨hin, fun _ => ⟨hin, _, _, hi s ms2, fun h => absurd rfl h, fun _ => ⟨rfl, rfl⟩⟩, fun h => absurd h c4⟩
  · rw [bool_f cx] at o1
    rw [bool_f cx] at hS
    exact ⟨.int (-1), _, _, eX8_lay ⟨_, _, o1, fun h => absurd h (by decide), fun _ => ⟨rfl, rfl⟩⟩, eX9_lay ⟨_, _, hS _, fun h => absurd rfl h, fun _ => ⟨rfl, rfl⟩⟩, hbad⟩
end OI
