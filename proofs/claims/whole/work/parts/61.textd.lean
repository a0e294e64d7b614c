/-! THE TEXT, the class's side: numbers, stops -/
def TC (s : ZS) (tl : Nat) (tb : Nat → Int32) (r : TS) : Prop := ((s 16).1 1 = nI tl ∧ ∀ j, j < tl → (s 16).2.2 0 j = tb j) ∧ (match r with
  | .inl e => (s 17).1 0 = nI e.1 ∧ (s 17).1 1 = nI e.2
  | .inr t => (s 17).1 0 = 0 ∧ (s 16).1 2 = nI t.1 ∧ (s 16).1 3 = nI t.2.1 ∧ (s 16).1 4 = nI t.2.2)
def FT (s s1 : ZS) : Prop := (∀ o, o ≠ 16 → o ≠ 17 → s1 o = s o) ∧ (s1 17).1 2 = (s 17).1 2 ∧ (s1 17).1 3 = (s 17).1 3
theorem FT.rf (s : ZS) : FT s s := ⟨fun _ _ _ => rfl, rfl, rfl⟩
theorem FT.tr {a b c : ZS} (h : FT a b) (h2 : FT b c) : FT a c := ⟨fun o h3 h4 => (h2.1 o h3 h4).trans (h.1 o h3 h4), h2.2.1.trans h.2.1, h2.2.2.trans h.2.2⟩
theorem nI_fl {e : Nat} (h : 1 ≤ e ∧ e ≤ 6) : ¬ nI e = 0 := nI_ne0 (by omega) (by omega)
section TXD
variable {l : Launch} {ad : ZA} {D : va_G} {ia : Nat → ClassId} {d : Nat} {s : ZS} {tl : Nat} {tb : Nat → Int32}
theorem ev_out (x : Int32) {lo hi : Nat} (h1 : lo < 2 ^ 31) (h2 : hi < 2 ^ 31) : Ev l ad D ia d mX8_outside [.int x, .int (nI lo), .int (nI hi)] s (some (.int (b1 (!decide (lo ≤ x.toInt ∧ x.toInt ≤ hi))))) s := by
  refine eX8_outside ⟨fun h1 => ⟨?_, rfl⟩, fun h1 => ⟨fun h2 => ⟨?_, rfl⟩, fun h2 => ⟨?_, rfl⟩⟩⟩
  · rw [Int32.lt_iff_toInt_lt, nI_toInt (by omega)] at h1
    rw [decide_eq_false (by omega)]
    rfl
  · rw [Int32.lt_iff_toInt_lt, nI_toInt (by omega)] at h1
    rw [Int32.le_iff_toInt_le, nI_toInt (by omega)] at h2
    rw [decide_eq_true (by omega)]
    rfl
  · rw [Int32.le_iff_toInt_le, nI_toInt (by omega)] at h2
    rw [decide_eq_false (by omega)]
    rfl
theorem ev_refR {t : Nat × Nat × Nat} (h : TC s tl tb (.inr t)) (c q : Nat) : ∃ s1, Ev l ad D ia d mX3_refuse [.ref (ad 17 0), .int (nI c), .int (nI q)] s none s1 ∧ TC s1 tl tb (.inl (c, q)) ∧ FT s s1 := by
  obtain ⟨h1, h2, -⟩ := h
  refine ⟨va_up s 17 (setI (setI (s 17) 0 (nI c)) 1 (nI q)), eX3_refuse ⟨fun h => absurd h2 h, fun _ s2 e2 s3 e3 => ?_⟩, ?_, ?_⟩
  · have e2 : s2 = va_up s 17 (setI (s 17) 0 (nI c)) := e2
    subst e2
    rw [stI_up] at e3
    exact ⟨rfl, e3.symm⟩
  · have e : va_up s 17 (setI (setI (s 17) 0 (nI c)) 1 (nI q)) 16 = s 16 := va_up_ne _ _ (by decide)
    unfold TC
    rw [e]
    refine ⟨h1, ?_, ?_⟩
    · rw [va_up_self, sI_n _ _ (by decide), sI_s]
    · rw [va_up_self, sI_s]
  · refine ⟨fun o _ h => va_up_ne _ _ h, ?_, ?_⟩
    · rw [va_up_self, sI_n _ _ (by decide), sI_n _ _ (by decide)]
    · rw [va_up_self, sI_n _ _ (by decide), sI_n _ _ (by decide)]
theorem ev_refL {e : Nat × Nat} (h : TC s tl tb (.inl e)) (he : 1 ≤ e.1 ∧ e.1 ≤ 6) (x y : Int32) : Ev l ad D ia d mX3_refuse [.ref (ad 17 0), .int x, .int y] s none s :=
  eX3_refuse ⟨fun _ => ⟨rfl, rfl⟩, fun h0 => absurd (by rw [← h.2.1]; exact h0) (nI_fl he)⟩
theorem okE {e : Nat × Nat} (h : okT tl (.inl e)) : 1 ≤ e.1 ∧ e.1 ≤ 6 := ⟨h.1, h.2.1⟩
theorem tc_ne {e : Nat × Nat} (h : TC s tl tb (.inl e)) (ho : okT tl (.inl e)) : ¬ (s 17).1 0 = 0 := by
  rw [h.2.1]
  exact nI_fl (okE ho)
theorem ev_tok (h160 : tl ≤ 160) {r : TS} (ho : okT tl r) (h : TC s tl tb r) : ∃ s1, Ev l ad D ia (d + 2) mX3_takeToken [.ref (ad 17 0)] s none s1 ∧ TC s1 tl tb (nxt tl tb r) ∧ FT s s1 := by
  cases r with
  | inl e => exact ⟨s, eX3_takeToken ⟨fun _ => ⟨rfl, rfl⟩, fun h0 => absurd h0 (tc_ne h ho)⟩, h, FT.rf s⟩
  | inr t =>
    obtain ⟨v, hE, v1, v0, v2, v3, v4⟩ := ev_advance (l := l) (ad := ad) (D := D) (ia := ia) (d := d) (s := s) (tb := tb) h160 ho.2.2.1 h.1.1 h.1.2 h.2.2.2.2
    have hk := tk_ok (tb := tb) ho.2.2.1
    have e17 : va_up s 16 v 17 = s 17 := va_up_ne _ _ (by decide)
    have hT : TC (va_up s 16 v) tl tb (.inr (tk tl tb t.2.2)) := by
      unfold TC
      rw [va_up_self, e17]
      exact ⟨⟨v1, v0⟩, h.2.1, v2, v3, v4⟩
    have hF : FT s (va_up s 16 v) := ⟨fun o h _ => va_up_ne _ _ h, by rw [e17], by rw [e17]⟩
    have e2 : nxt tl tb (.inr t) = tkE tl tb t.2.2 := rfl
    rw [e2]
    unfold tkE
    have es : (va_up s 16 v 16).1 2 = nI (tk tl tb t.2.2).1 := by rw [va_up_self]; exact v2
    by_cases c : (tk tl tb t.2.2).1 = 4
    · rw [if_pos c]
      obtain ⟨s5, h5, t5, f5⟩ := ev_refR (l := l) (ad := ad) (D := D) (ia := ia) (d := d + 1) hT 1 (tk tl tb t.2.2).2.1
      have e3 : (va_up s 16 v 16).1 3 = nI (tk tl tb t.2.2).2.1 := by rw [va_up_self]; exact v3
      refine ⟨s5, eX3_takeToken ⟨fun h0 => absurd h.2.1 h0, fun _ => ⟨_, hE, fun h4 => absurd (by rw [es, c]; rfl) h4, fun _ => ⟨s5, ?_, rfl, rfl⟩⟩⟩, t5, hF.tr f5⟩
      rw [e3]
      exact h5
    · rw [if_neg c]
      exact ⟨_, eX3_takeToken ⟨fun h0 => absurd h.2.1 h0, fun _ => ⟨_, hE, fun _ => ⟨rfl, rfl⟩, fun h4 => absurd ((nI_eq (a := (tk tl tb t.2.2).1) (b := 4) (by omega) (by omega)).mp (es.symm.trans h4)) c⟩⟩, hT, hF⟩
theorem ev_value (h160 : tl ≤ 160) {t : Nat × Nat × Nat} (ho : okT tl (.inr t)) (h : TC s tl tb (.inr t)) : Ev l ad D ia d mX7_valueOfNumber [.ref (ad 16 0)] s (some (.int (val tb t))) s := by
  have hle := ho.2.1
  have htl := ho.2.2.1
  obtain ⟨⟨h1, hb⟩, h0, h2, h3, h4⟩ := h
  refine eX7_valueOfNumber (fun C hC => ?_)
  have lp : ∀ (k q : Nat) (x : Int32), q + k = t.2.2 → Z l ad D ia C (some (.int (vlN tb k q x))) s 7 [(0, .ref (ad 16 0)), (1, .int x), (2, .int (nI q))] [] s := by
    intro k
    induction k with
    | zero =>
      intro q x hk
      refine bX7_valueOfNumber_7 hC ?_
      rw [h4]
      exact ⟨fun _ => ⟨rfl, rfl⟩, fun h => absurd (nI_le (by omega) (by omega)) h⟩
    | succ k ih =>
      intro q x hk
      refine bX7_valueOfNumber_7 hC ?_
      rw [h4, nI_clamp (show q < 2 ^ 31 by omega), hb q (by omega), nI_1]
      exact ⟨fun h => absurd h (nI_ge (by omega) (by omega)), fun _ => ⟨vp_in_nI (by omega) (by omega), ih (q + 1) _ (by omega)⟩⟩
  rw [h3]
  exact lp (t.2.2 - t.2.1) t.2.1 0 (by omega)
theorem ev_num (h160 : tl ≤ 160) {r : TS} {lo hi : Nat} (hl : lo < 2 ^ 31) (hh : hi < 2 ^ 31) (ho : okT tl r) (h : TC s tl tb r) : ∃ x s1, Ev l ad D ia (d + 3) mX3_takeNumber [.ref (ad 17 0), .int (nI lo), .int (nI hi)] s (some (.int x)) s1 ∧ TC s1 tl tb (bnd (nxt tl tb r) (chN tb lo hi)) ∧ FT s s1 ∧ (∀ e, bnd (nxt tl tb r) (chN tb lo hi) = .inl e → x = nI lo) ∧ (∀ t, bnd (nxt tl tb r) (chN tb lo hi) = .inr t → x = val tb t) := by
  obtain ⟨s1, h1, t1, f1⟩ := ev_tok (l := l) (ad := ad) (D := D) (ia := ia) (d := d) h160 ho h
  have ho1 := nxt_ok (tb := tb) ho
  generalize nxt tl tb r = r1 at t1 ho1 ⊢
  cases r1 with
  | inl e =>
    exact ⟨nI lo, s1, eX3_takeNumber ⟨s1, h1, fun h0 => absurd h0 (tc_ne t1 ho1), fun _ => ⟨rfl, rfl⟩⟩, t1, f1, fun _ _ => rfl, fun t e => by injection e⟩
  | inr t =>
    have e0 : bnd (.inr t) (chN tb lo hi) = chN tb lo hi t := rfl
    rw [e0]
    have ht3 := ho1.1
    obtain ⟨-, z0, z2, z3, z4⟩ := id t1
    unfold chN
    by_cases c : t.1 = 2
    · rw [if_pos c]
      have hv := ev_value (l := l) (ad := ad) (D := D) (ia := ia) (d := d + 2) h160 ho1 t1
      have hout := ev_out (l := l) (ad := ad) (D := D) (ia := ia) (d := d + 2) (s := s1) (val tb t) hl hh
      by_cases c2 : lo ≤ (val tb t).toInt ∧ (val tb t).toInt ≤ hi
      · rw [if_pos c2]
        rw [decide_eq_true c2] at hout
        exact ⟨val tb t, s1, eX3_takeNumber ⟨s1, h1, fun _ => ⟨fun _ => ⟨_, _, hv, _, _, hout, fun _ => ⟨rfl, rfl⟩, fun h => absurd rfl h⟩, fun h => absurd (by rw [z2, c]; rfl) h⟩, fun h => absurd z0 h⟩, t1, f1, fun e q => by injection q, fun u q => by injection q with q; rw [q]⟩
      · rw [if_neg c2]
        rw [decide_eq_false c2] at hout
        obtain ⟨s5, h5, t5, f5⟩ := ev_refR (l := l) (ad := ad) (D := D) (ia := ia) (d := d + 2) t1 3 t.2.1
        refine ⟨nI lo, s5, eX3_takeNumber ⟨s1, h1, fun _ => ⟨fun _ => ⟨_, _, hv, _, _, hout, fun h => absurd h (by decide), fun _ => ⟨s5, ?_, rfl, rfl⟩⟩, fun h => absurd (by rw [z2, c]; rfl) h⟩, fun h => absurd z0 h⟩, t5, f1.tr f5, fun _ _ => rfl, fun t e => by injection e⟩
        rw [z3]
        exact h5
    · rw [if_neg c]
      obtain ⟨s5, h5, t5, f5⟩ := ev_refR (l := l) (ad := ad) (D := D) (ia := ia) (d := d + 2) t1 2 t.2.1
      refine ⟨nI lo, s5, eX3_takeNumber ⟨s1, h1, fun _ => ⟨fun h2 => absurd ((nI_eq (a := t.1) (b := 2) (by omega) (by omega)).mp (z2.symm.trans h2)) c, fun _ => ⟨s5, ?_, rfl, rfl⟩⟩, fun h => absurd z0 h⟩, t5, f1.tr f5, fun _ _ => rfl, fun t e => by injection e⟩
      rw [z3]
      exact h5
theorem ev_book9 {r : TS} (ho : okT tl r) (h : TC s tl tb r) {x : Int32} (hx0 : ∀ e, r = .inl e → x = nI 0) (hx : ∀ t, r = .inr t → x = val tb t) (hr : ∀ t, r = .inr t → 0 ≤ (val tb t).toInt ∧ (val tb t).toInt ≤ 9) : ∃ y s1, Ev l ad D ia (d + 1) mX3_bookTold [.ref (ad 17 0), .int x] s (some (.int y)) s1 ∧ TC s1 tl tb (bnd r (chB8 tb)) ∧ FT s s1 ∧ (∀ t, bnd r (chB8 tb) = .inr t → y = bO (val tb t)) := by
  cases r with
  | inl e =>
    have e0 := hx0 e rfl
    subst e0
    exact ⟨nI 0, s, eX3_bookTold ⟨fun _ => ⟨fun _ => ⟨rfl, rfl⟩, fun h => absurd (by decide) h⟩, fun h => absurd h (by decide)⟩, h, FT.rf s, fun t q => by injection q⟩
  | inr t =>
    have e0 := hx t rfl
    have hr := hr t rfl
    subst e0
    obtain ⟨-, z0, z2, z3, z4⟩ := id h
    have e0 : bnd (.inr t) (chB8 tb) = chB8 tb t := rfl
    rw [e0]
    unfold chB8 bO
    have e8 : (8 : Int32).toInt = 8 := by decide
    by_cases c9 : val tb t = 9
    · have c8 : ¬ val tb t = 8 := by rw [c9]; decide
      rw [if_neg c8]
      exact ⟨-4, s, eX3_bookTold ⟨fun h => absurd c9 h, fun _ => ⟨rfl, rfl⟩⟩, h, FT.rf s, fun u q => by injection q with q; rw [← q, if_pos c9]⟩
    · by_cases c8 : val tb t = 8
      · rw [if_pos c8]
        obtain ⟨s5, h5, t5, f5⟩ := ev_refR (l := l) (ad := ad) (D := D) (ia := ia) (d := d) h 3 t.2.1
        refine ⟨val tb t, s5, eX3_bookTold ⟨fun _ => ⟨fun h => absurd h (by rw [c8]; decide), fun _ => ⟨s5, ?_, rfl, rfl⟩⟩, fun h => absurd h c9⟩, t5, f5, fun u q => by injection q⟩
        rw [z3]
        exact h5
      · rw [if_neg c8]
        have hlt : val tb t < 8 := by
          rw [Int32.lt_iff_toInt_lt, e8]
          rcases (show (val tb t).toInt < 8 ∨ (val tb t).toInt = 8 ∨ (val tb t).toInt = 9 by omega) with q | q | q
          · exact q
          · exact absurd (Int32.toInt_inj.mp (q.trans e8.symm)) c8
          · exact absurd (Int32.toInt_inj.mp (q.trans (by decide : (9 : Int) = (9 : Int32).toInt))) c9
        exact ⟨val tb t, s, eX3_bookTold ⟨fun _ => ⟨fun _ => ⟨rfl, rfl⟩, fun h => absurd hlt h⟩, fun h => absurd h c9⟩, h, FT.rf s, fun u q => by injection q with q; rw [← q, if_neg c9]⟩
theorem ev_stop (h160 : tl ≤ 160) {r : TS} (ho : okT tl r) (h : TC s tl tb r) : ∃ s1, Ev l ad D ia (d + 3) mX3_takeStop [.ref (ad 17 0)] s none s1 ∧ TC s1 tl tb (bnd (nxt tl tb r) chS) ∧ FT s s1 := by
  obtain ⟨s1, h1, t1, f1⟩ := ev_tok (l := l) (ad := ad) (D := D) (ia := ia) (d := d) h160 ho h
  have ho1 := nxt_ok (tb := tb) ho
  generalize nxt tl tb r = r1 at t1 ho1 ⊢
  cases r1 with
  | inl e => exact ⟨s1, eX3_takeStop ⟨s1, h1, fun _ => ⟨rfl, rfl⟩, fun h0 => absurd h0 (tc_ne t1 ho1)⟩, t1, f1⟩
  | inr t =>
    have e0 : bnd (.inr t) chS = chS t := rfl
    rw [e0]
    have ht3 := ho1.1
    obtain ⟨-, z0, z2, z3, z4⟩ := id t1
    unfold chS
    by_cases c : t.1 = 3
    · rw [if_pos c]
      exact ⟨s1, eX3_takeStop ⟨s1, h1, fun h => absurd z0 h, fun _ => ⟨fun _ => ⟨rfl, rfl⟩, fun h => absurd (by rw [z2, c]; rfl) h⟩⟩, t1, f1⟩
    · rw [if_neg c]
      obtain ⟨s5, h5, t5, f5⟩ := ev_refR (l := l) (ad := ad) (D := D) (ia := ia) (d := d + 2) t1 2 t.2.1
      refine ⟨s5, eX3_takeStop ⟨s1, h1, fun h => absurd z0 h, fun _ => ⟨fun h2 => absurd ((nI_eq (a := t.1) (b := 3) (by omega) (by omega)).mp (z2.symm.trans h2)) c, fun _ => ⟨s5, ?_, rfl, rfl⟩⟩⟩, t5, f1.tr f5⟩
      rw [z3]
      exact h5
/-- behind a fault nothing is read -/
theorem ev_numL {e : Nat × Nat} (ho : okT tl (.inl e)) (h : TC s tl tb (.inl e)) (x y : Int32) : Ev l ad D ia (d + 2) mX3_takeNumber [.ref (ad 17 0), .int x, .int y] s (some (.int x)) s :=
  eX3_takeNumber ⟨s, eX3_takeToken ⟨fun _ => ⟨rfl, rfl⟩, fun h0 => absurd h0 (tc_ne h ho)⟩, fun h0 => absurd h0 (tc_ne h ho), fun _ => ⟨rfl, rfl⟩⟩
theorem ev_stopL {e : Nat × Nat} (ho : okT tl (.inl e)) (h : TC s tl tb (.inl e)) : Ev l ad D ia (d + 2) mX3_takeStop [.ref (ad 17 0)] s none s :=
  eX3_takeStop ⟨s, eX3_takeToken ⟨fun _ => ⟨rfl, rfl⟩, fun h0 => absurd h0 (tc_ne h ho)⟩, fun _ => ⟨rfl, rfl⟩, fun h0 => absurd h0 (tc_ne h ho)⟩
theorem ev_book0 : Ev l ad D ia (d + 1) mX3_bookTold [.ref (ad 17 0), .int 0] s (some (.int 0)) s :=
  eX3_bookTold ⟨fun _ => ⟨fun _ => ⟨rfl, rfl⟩, fun h => absurd (by decide) h⟩, fun h => absurd h (by decide)⟩
end TXD
