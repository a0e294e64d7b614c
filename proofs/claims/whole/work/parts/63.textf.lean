/-! THE TEXT, the class's side: its end -/
def missN (nb nr : Nat) (a b : Nat → Int32) : Prop := (∃ i, i < nb ∧ ¬ a i < nI nb) ∨ (∃ i, i < nr ∧ ¬ b i < nI nb)
def p00 : PS := (fun _ _ => 0, fun _ => 0)
def L00 : LQ := (0, 0, p00, false)
/-- the text's outcome: a fault, or the library and the lines -/
def txO (tl : Nat) (F : TS × LQ × Nat) (e : Sum (Nat × Nat) Unit) : Prop := match F.1, e with
  | .inl q, .inl q2 => q2 = q
  | .inl _, .inr _ => False
  | .inr _, .inl q2 => q2 = (6, tl) ∧ missN F.2.1.1 F.2.1.2.1 (F.2.1.2.2.1.1 2) (F.2.1.2.2.1.1 4)
  | .inr _, .inr _ => ¬ missN F.2.1.1 F.2.1.2.1 (F.2.1.2.2.1.1 2) (F.2.1.2.2.1.1 4)
section TXG
variable {l : Launch} {ad : ZA} {D : va_G} {ia : Nat → ClassId} {d : Nat} {s : ZS} {tl : Nat} {tb : Nat → Int32}
theorem ev_missing {nb nr : Nat} (h8 : nb ≤ 8) (h4 : nr ≤ 4) (n0 : (s 3).1 0 = nI nb) (n4 : (s 3).1 4 = nI nr) : ∃ b : Bool, Ev l ad D ia d mX3_namesMissingBook [.ref (ad 17 0)] s (some (.int (b1 b))) s ∧ (b = true ↔ missN nb nr ((s 3).2.2 3) ((s 3).2.2 6)) := by
  have lr : ∀ (k q : Nat), q + k = nr → ∃ b : Bool, (∀ C : ZC, Zok ad D ia C d cX3_namesMissingBook 2 RX3 (some .boolean) → Z l ad D ia C (some (.int (b1 b))) s 42 [(0, .ref (ad 17 0)), (1, .int (nI q))] [] s) ∧ (b = true ↔ ∃ i, q ≤ i ∧ i < nr ∧ ¬ (s 3).2.2 6 i < nI nb) := by
    intro k
    induction k with
    | zero =>
      intro q hk
      refine ⟨false, fun C hC => bX3_namesMissingBook_42 hC ?_, by simp; intro i h1 h2; omega⟩
      rw [n4]
      exact ⟨fun _ => ⟨rfl, rfl⟩, fun h => absurd (nI_le (by omega) (by omega)) h⟩
    | succ k ih =>
      intro q hk
      by_cases c : (s 3).2.2 6 q < nI nb
      · obtain ⟨b, hz, hb⟩ := ih (q + 1) (by omega)
        refine ⟨b, fun C hC => bX3_namesMissingBook_42 hC ?_, hb.trans ⟨fun ⟨i, h1, h2⟩ => ⟨i, by omega, h2⟩, fun ⟨i, h1, h2, h3⟩ => ⟨i, ?_, h2, h3⟩⟩⟩
        · rw [n4, n0, nI_clamp (show q < 2 ^ 31 by omega), nI_1]
          exact ⟨fun h => absurd h (nI_ge (by omega) (by omega)), fun _ => ⟨vp_in_nI (by omega) (by omega), fun _ => hz C hC, fun h => absurd c h⟩⟩
        · rcases Nat.lt_or_ge q i with e | e
          · exact e
          · have : i = q := by omega
            subst this
            exact absurd c h3
      · refine ⟨true, fun C hC => bX3_namesMissingBook_42 hC ?_, ⟨fun _ => ⟨q, Nat.le_refl q, by omega, c⟩, fun _ => rfl⟩⟩
        rw [n4, n0, nI_clamp (show q < 2 ^ 31 by omega)]
        exact ⟨fun h => absurd h (nI_ge (by omega) (by omega)), fun _ => ⟨vp_in_nI (by omega) (by omega), fun h => absurd h c, fun _ => ⟨rfl, rfl⟩⟩⟩
  have lb : ∀ (k q : Nat), q + k = nb → ∃ b : Bool, (∀ C : ZC, Zok ad D ia C d cX3_namesMissingBook 2 RX3 (some .boolean) → Z l ad D ia C (some (.int (b1 b))) s 2 [(0, .ref (ad 17 0)), (1, .int (nI q))] [] s) ∧ (b = true ↔ ((∃ i, q ≤ i ∧ i < nb ∧ ¬ (s 3).2.2 3 i < nI nb) ∨ ∃ i, i < nr ∧ ¬ (s 3).2.2 6 i < nI nb)) := by
    intro k
    induction k with
    | zero =>
      intro q hk
      obtain ⟨b, hz, hb⟩ := lr nr 0 (by omega)
      refine ⟨b, fun C hC => bX3_namesMissingBook_2 hC ?_, hb.trans ⟨fun ⟨i, h1, h2⟩ => Or.inr ⟨i, h2⟩, fun h => ?_⟩⟩
      · rw [n0]
        exact ⟨fun _ => hz C hC, fun h => absurd (nI_le (by omega) (by omega)) h⟩
      · rcases h with ⟨i, h1, h2, -⟩ | ⟨i, h⟩
        · omega
        · exact ⟨i, Nat.zero_le i, h⟩
    | succ k ih =>
      intro q hk
      by_cases c : (s 3).2.2 3 q < nI nb
      · obtain ⟨b, hz, hb⟩ := ih (q + 1) (by omega)
        refine ⟨b, fun C hC => bX3_namesMissingBook_2 hC ?_, hb.trans ⟨fun h => ?_, fun h => ?_⟩⟩
        · rw [n0, nI_clamp (show q < 2 ^ 31 by omega), nI_1]
          exact ⟨fun h => absurd h (nI_ge (by omega) (by omega)), fun _ => ⟨vp_in_nI (by omega) (by omega), fun _ => hz C hC, fun h => absurd c h⟩⟩
        · rcases h with ⟨i, h1, h2⟩ | h
          · exact Or.inl ⟨i, by omega, h2⟩
          · exact Or.inr h
        · rcases h with ⟨i, h1, h2, h3⟩ | h
          · refine Or.inl ⟨i, ?_, h2, h3⟩
            rcases Nat.lt_or_ge q i with e | e
            · exact e
            · have : i = q := by omega
              subst this
              exact absurd c h3
          · exact Or.inr h
      · refine ⟨true, fun C hC => bX3_namesMissingBook_2 hC ?_, ⟨fun _ => Or.inl ⟨q, Nat.le_refl q, by omega, c⟩, fun _ => rfl⟩⟩
        rw [n0, nI_clamp (show q < 2 ^ 31 by omega)]
        exact ⟨fun h => absurd h (nI_ge (by omega) (by omega)), fun _ => ⟨vp_in_nI (by omega) (by omega), fun h => absurd h c, fun _ => ⟨rfl, rfl⟩⟩⟩
  obtain ⟨b, hz, hb⟩ := lb nb 0 (by omega)
  refine ⟨b, eX3_namesMissingBook (fun C hC => hz C hC), hb.trans ⟨fun h => ?_, fun h => ?_⟩⟩
  · rcases h with ⟨i, -, h⟩ | h
    · exact Or.inl ⟨i, h⟩
    · exact Or.inr h
  · rcases h with ⟨i, h⟩ | h
    · exact Or.inl ⟨i, Nat.zero_le i, h⟩
    · exact Or.inr h
theorem missN_cg {nb nr : Nat} {a b a2 b2 : Nat → Int32} (ha : ∀ i, i < nb → a i = a2 i) (hb : ∀ i, i < nr → b i = b2 i) : missN nb nr a b ↔ missN nb nr a2 b2 := by
  constructor
  · rintro (⟨i, h1, h2⟩ | ⟨i, h1, h2⟩)
    · exact Or.inl ⟨i, h1, by rw [← ha i h1]; exact h2⟩
    · exact Or.inr ⟨i, h1, by rw [← hb i h1]; exact h2⟩
  · rintro (⟨i, h1, h2⟩ | ⟨i, h1, h2⟩)
    · exact Or.inl ⟨i, h1, by rw [ha i h1]; exact h2⟩
    · exact Or.inr ⟨i, h1, by rw [hb i h1]; exact h2⟩
/-- the parser's end: its fault, or its house -/
theorem ev_finish {F : TS × LQ × Nat} (ho : okT tl F.1) (h : TC s tl tb F.1) (hH : HC (s 3) ((s 17).1 3) F.1 F.2.1) (hL : okL F.2.1) : ∃ s1 e, Ev l ad D ia (d + 1) mX3_finish [.ref (ad 17 0)] s none s1 ∧ txO tl F e ∧ FT s s1 ∧ (match e with
    | .inl q => ((s1 17).1 0 = nI q.1 ∧ (s1 17).1 1 = nI q.2) ∧ 1 ≤ q.1 ∧ q.1 ≤ 6
    | .inr _ => (s1 17).1 0 = 0 ∧ HR (s1 3) F.2.1.1 F.2.1.2.1 F.2.1.2.2.1 0 0) := by
  obtain ⟨F1, L, n⟩ := F
  cases F1 with
  | inl e =>
    obtain ⟨nb, nr, h8, h4, n0, n4⟩ := hH.1
    obtain ⟨b, hb, hbi⟩ := ev_missing (l := l) (ad := ad) (D := D) (ia := ia) (d := d) (s := s) h8 h4 n0 n4
    exact ⟨s, .inl e, eX3_finish ⟨_, _, hb, fun _ => ⟨rfl, rfl⟩, fun _ => ⟨s, ev_refL h (okE ho) _ _, rfl, rfl⟩⟩, rfl, FT.rf s, h.2, okE ho⟩
  | inr t =>
    obtain ⟨hR, hw⟩ := hH.2 t rfl
    obtain ⟨b, hb, hbi⟩ := ev_missing (l := l) (ad := ad) (D := D) (ia := ia) (d := d) (s := s) hL.1 hL.2 hR.n0 hR.n4
    have hb3 : b = true ↔ missN L.1 L.2.1 (L.2.2.1.1 2) (L.2.2.1.1 4) := hbi.trans (missN_cg (fun i hi => hR.g3 hi) (fun i hi => hR.g6 hi))
    cases b with
    | false => exact ⟨s, .inr (), eX3_finish ⟨_, _, hb, fun _ => ⟨rfl, rfl⟩, fun q => absurd rfl q⟩, fun q => absurd (hb3.mpr q) (by decide), FT.rf s, h.2.1, hR⟩
    | true =>
      obtain ⟨s5, h5, t5, f5⟩ := ev_refR (l := l) (ad := ad) (D := D) (ia := ia) (d := d) h 6 tl
      refine ⟨s5, .inl (6, tl), eX3_finish ⟨_, _, hb, fun q => absurd q (by decide), fun _ => ⟨s5, ?_, rfl, rfl⟩⟩, ⟨rfl, hb3.mp rfl⟩, f5, t5.2, Nat.le_of_ble_eq_true rfl, Nat.le_of_ble_eq_true rfl⟩
      rw [h.1.1]
      exact h5
theorem okL_A {t : Nat × Nat × Nat} {L : LQ} (h : okL L) : okL (lnA tl tb t L).2 := by
  have hB : okL (lnB tl tb t L).2 := by
    unfold lnB
    by_cases c : L.1 < 8
    · rw [if_pos c]
      exact ⟨c, h.2⟩
    · rw [if_neg c]
      exact h
  have hR : ∀ kd, okL (lnR tl tb kd t L).2 := fun kd => by
    unfold lnR
    by_cases c : L.2.1 < 4
    · rw [if_pos c]
      exact ⟨h.1, c⟩
    · rw [if_neg c]
      exact h
  have hS : okL (lnS tl tb t L).2 := by
    unfold lnS
    by_cases c : L.2.2.2 = false
    · rw [if_pos c]
      exact h
    · rw [if_neg c]
      exact h
  unfold lnA
  split
  · split
    · exact hB
    · split
      · exact hR 0
      · split
        · exact hR 1
        · split
          · exact hR 2
          · split
            · exact hR 3
            · split
              · exact hS
              · exact h
  · exact h
/-- the lines of a text, read by the class -/
theorem ev_lines (h160 : tl ≤ 160) : ∀ (k : Nat) (r : TS) (L : LQ) (n : Nat) (s : ZS), n + k = 160 → okT tl r → TC s tl tb r → HC (s 3) ((s 17).1 3) r L → okL L → (s 17).1 2 = nI n → ∃ s1, (TC s1 tl tb (txF tl tb k r L n).1 ∧ HC (s1 3) ((s1 17).1 3) (txF tl tb k r L n).1 (txF tl tb k r L n).2.1 ∧ okL (txF tl tb k r L n).2.1 ∧ (s1 17).1 2 = nI (txF tl tb k r L n).2.2 ∧ ∀ o, o ≠ 16 → o ≠ 17 → o ≠ 3 → s1 o = s o) ∧ ∀ (C : ZC) (X : Option Value) (Y : ZS), Zok ad D ia C (d + 6) cX8_text 2 RX8 (some .int) → Z l ad D ia C X Y 39 [(0, .ref (ad 0 0))] [] s1 → Z l ad D ia C X Y 9 [(0, .ref (ad 0 0)), (1, .int (nI n))] [] s := by
  intro k
  induction k with
  | zero =>
    intro r L n s hn ho h hH hL h2
    exact ⟨s, ⟨h, hH, hL, h2, fun _ _ _ _ => rfl⟩, fun C X Y hC hz => bX8_text_9 hC ⟨fun _ => hz, fun q => absurd (nI_le (a := 160) (b := n) (by omega) (by omega)) q⟩⟩
  | succ k ih =>
    intro r L n s hn ho h hH hL h2
    have hlt : ¬ (160 : Int32) ≤ nI n := nI_ge (a := n) (b := 160) (by omega) (by omega)
    cases r with
    | inl e =>
      exact ⟨s, ⟨h, hH, hL, h2, fun _ _ _ _ => rfl⟩, fun C X Y hC hz => bX8_text_9 hC ⟨fun _ => hz, fun _ => ⟨_, _, eX3_isAtLine ⟨fun _ => ⟨rfl, rfl⟩, fun q => absurd q (tc_ne h ho)⟩, fun _ => hz, fun q => absurd rfl q⟩⟩⟩
    | inr t =>
      have e : txF tl tb (k + 1) (.inr t) L n = if t.1 = 0 then (.inr t, L, n) else txF tl tb k (nxt tl tb (lnA tl tb t L).1) (lnA tl tb t L).2 (n + 1) := rfl
      rw [e]
      have h3 := ho.1
      by_cases c : t.1 = 0
      · rw [if_pos c]
        exact ⟨s, ⟨h, hH, hL, h2, fun _ _ _ _ => rfl⟩, fun C X Y hC hz => bX8_text_9 hC ⟨fun _ => hz, fun _ => ⟨_, _, eX3_isAtLine ⟨fun q => absurd h.2.1 q, fun _ => ⟨fun _ => ⟨rfl, rfl⟩, fun q => absurd (by rw [h.2.2.1, c]; rfl) q⟩⟩, fun _ => hz, fun q => absurd rfl q⟩⟩⟩
      · rw [if_neg c]
        obtain ⟨sA, hA, tA, kA, fA, gA⟩ := ev_parseLine (l := l) (ad := ad) (D := D) (ia := ia) (d := d) h160 ho h hH hL
        obtain ⟨s1, ⟨t1, k1, l1, n1, f1⟩, hz1⟩ := ih _ _ (n + 1) sA (by omega) (nxt_ok (tb := tb) (lnA_ok (tb := tb) (L := L) ho)) tA kA (okL_A hL) (by rw [gA, h2, nI_1])
        refine ⟨s1, ⟨t1, k1, l1, n1, fun o a1 a2 a3 => (f1 o a1 a2 a3).trans (fA o a1 a2 a3)⟩, fun C X Y hC hz => bX8_text_9 hC ⟨fun q => absurd q hlt, fun _ => ⟨_, _, eX3_isAtLine ⟨fun q => absurd h.2.1 q, fun _ => ⟨fun q => absurd ((nI_eq (a := t.1) (b := 0) (by omega) (by omega)).mp (h.2.2.1.symm.trans q)) c, fun _ => ⟨rfl, rfl⟩⟩⟩, fun q => absurd q (by decide), fun _ => ⟨sA, hA, ?_⟩⟩⟩⟩
        rw [nI_1]
        exact hz1 C X Y hC hz
theorem ev_begin (h160 : tl ≤ 160) (h1 : (s 16).1 1 = nI tl) (hb : ∀ j, j < tl → (s 16).2.2 0 j = tb j) : ∃ s1, Ev l ad D ia (d + 3) mX3_begin [.ref (ad 17 0)] s none s1 ∧ TC s1 tl tb (tkE tl tb 0) ∧ HC (s1 3) ((s1 17).1 3) (tkE tl tb 0) L00 ∧ (s1 17).1 2 = nI 0 ∧ ∀ o, o ≠ 16 → o ≠ 17 → o ≠ 3 → s1 o = s o := by
  obtain ⟨v17, e17⟩ : ∃ v, v = setI (setI (setI (setI (s 17) 0 0) 1 0) 2 0) 3 0 := ⟨_, rfl⟩
  obtain ⟨v16, e16⟩ : ∃ v, v = setI (setI (setI (s 16) 2 0) 3 0) 4 0 := ⟨_, rfl⟩
  obtain ⟨v3, e3⟩ : ∃ v, v = setI (setI (setI (setI (setI (setI (setI (s 3) 0 0) 4 0) 9 0) 10 0) 11 0) 12 0) 13 0 := ⟨_, rfl⟩
  have a17 : va_up (va_up (va_up s 17 v17) 16 v16) 3 v3 17 = v17 := by rw [va_up_ne _ _ (by decide), va_up_ne _ _ (by decide), va_up_self]
  have a16 : va_up (va_up (va_up s 17 v17) 16 v16) 3 v3 16 = v16 := by rw [va_up_ne _ _ (by decide), va_up_self]
  have hT : TC (va_up (va_up (va_up s 17 v17) 16 v16) 3 v3) tl tb (.inr (0, 0, 0)) := by
    unfold TC
    rw [a16, a17]
    refine ⟨⟨?_, ?_⟩, ?_, ?_, ?_, ?_⟩
    · rw [e16, sI_n _ _ (by decide), sI_n _ _ (by decide), sI_n _ _ (by decide)]
      exact h1
    · rw [e16]
      exact hb
    · rw [e17, sI_n _ _ (by decide), sI_n _ _ (by decide), sI_n _ _ (by decide), sI_s]
    · rw [e16, sI_n _ _ (by decide), sI_n _ _ (by decide), sI_s]
      rfl
    · rw [e16, sI_n _ _ (by decide), sI_s]
      rfl
    · rw [e16, sI_s]
      rfl
  obtain ⟨v, hE, w1, w0, w2, w3, w4⟩ := ev_advance (l := l) (ad := ad) (D := D) (ia := ia) (d := d) (s := va_up (va_up (va_up s 17 v17) 16 v16) 3 v3) (tb := tb) h160 (q := 0) (Nat.zero_le tl) hT.1.1 hT.1.2 hT.2.2.2.2
  obtain ⟨s1, h1', t1, f1⟩ : ∃ s1, Ev l ad D ia (d + 2) mX3_takeToken [.ref (ad 17 0)] (va_up (va_up (va_up s 17 v17) 16 v16) 3 v3) none s1 ∧ TC s1 tl tb (tkE tl tb 0) ∧ FT (va_up (va_up (va_up s 17 v17) 16 v16) 3 v3) s1 := by
    have b17 : va_up (va_up (va_up (va_up s 17 v17) 16 v16) 3 v3) 16 v 17 = v17 := by rw [va_up_ne _ _ (by decide)]; exact a17
    have hk := tk_ok (tl := tl) (tb := tb) (q := 0) (Nat.zero_le tl)
    have hT2 : TC (va_up (va_up (va_up (va_up s 17 v17) 16 v16) 3 v3) 16 v) tl tb (.inr (tk tl tb 0)) := by
      unfold TC
      rw [va_up_self, b17]
      exact ⟨⟨w1, w0⟩, by rw [← a17]; exact hT.2.1, w2, w3, w4⟩
    have hF : FT (va_up (va_up (va_up s 17 v17) 16 v16) 3 v3) (va_up (va_up (va_up (va_up s 17 v17) 16 v16) 3 v3) 16 v) := ⟨fun o h _ => va_up_ne _ _ h, by rw [b17, a17], by rw [b17, a17]⟩
    have es : (va_up (va_up (va_up (va_up s 17 v17) 16 v16) 3 v3) 16 v 16).1 2 = nI (tk tl tb 0).1 := by rw [va_up_self]; exact w2
    unfold tkE
    by_cases c : (tk tl tb 0).1 = 4
    · rw [if_pos c]
      obtain ⟨s5, h5, t5, f5⟩ := ev_refR (l := l) (ad := ad) (D := D) (ia := ia) (d := d + 1) hT2 1 (tk tl tb 0).2.1
      refine ⟨s5, eX3_takeToken ⟨fun h0 => absurd hT.2.1 h0, fun _ => ⟨_, hE, fun h4 => absurd (by rw [es, c]; rfl) h4, fun _ => ⟨s5, ?_, rfl, rfl⟩⟩⟩, t5, hF.tr f5⟩
      rw [hT2.2.2.2.1]
      exact h5
    · rw [if_neg c]
      exact ⟨_, eX3_takeToken ⟨fun h0 => absurd hT.2.1 h0, fun _ => ⟨_, hE, fun _ => ⟨rfl, rfl⟩, fun h4 => absurd ((nI_eq (a := (tk tl tb 0).1) (b := 4) (by omega) (by omega)).mp (es.symm.trans h4)) c⟩⟩, hT2, hF⟩
  have b3 : s1 3 = v3 := by rw [f1.1 3 (by decide) (by decide), va_up_self]
  refine ⟨s1, eX3_begin (fun z1 q1 z2 q2 z3 q3 z4 q4 => ?_), t1, ⟨⟨0, 0, by decide, by decide, ?_, ?_⟩, fun u e => ⟨?_, ?_⟩⟩, ?_, fun o a1 a2 a3 => ?_⟩
  · have q1 : z1 = va_up s 17 (setI (s 17) 0 0) := q1
    subst q1
    rw [stI_up] at q2
    subst q2
    rw [stI_up] at q3
    subst q3
    rw [stI_up, ← e17] at q4
    subst q4
    refine ⟨va_up (va_up s 17 v17) 16 v16, eX7_rewind (fun y1 p1 y2 p2 y3 p3 => ⟨rfl, ?_⟩), va_up (va_up (va_up s 17 v17) 16 v16) 3 v3, eX0_clear rfl (fun y1 p1 y2 p2 y3 p3 y4 p4 y5 p5 y6 p6 y7 p7 => ⟨rfl, ?_⟩), s1, h1', rfl, rfl⟩
    · have p1 : y1 = va_up (va_up s 17 v17) 16 (setI (s 16) 2 0) := by
        rw [p1]
        unfold stI
        rw [va_up_ne _ _ (show 16 ≠ 17 by decide)]
      subst p1
      rw [stI_up] at p2
      subst p2
      rw [stI_up, ← e16] at p3
      exact p3.symm
    · have p1 : y1 = va_up (va_up (va_up s 17 v17) 16 v16) 3 (setI (s 3) 0 0) := by
        rw [p1]
        unfold stI
        rw [va_up_ne _ _ (show 3 ≠ 16 by decide), va_up_ne _ _ (show 3 ≠ 17 by decide)]
      subst p1
      rw [stI_up] at p2
      subst p2
      rw [stI_up] at p3
      subst p3
      rw [stI_up] at p4
      subst p4
      rw [stI_up] at p5
      subst p5
      rw [stI_up] at p6
      subst p6
      rw [stI_up, ← e3] at p7
      exact p7.symm
  · rw [b3, e3]
    simp [setI, va_up]
    rfl
  · rw [b3, e3]
    simp [setI, va_up]
    rfl
  · rw [b3, e3]
    refine ⟨⟨?_, ?_⟩, fun c hc b hb => absurd hb (Nat.not_lt_zero b), fun c hc b hb => absurd hb (Nat.not_lt_zero b), fun j hj => ?_, ?_, ?_⟩
    · simp [setI, va_up]
      rfl
    · simp [setI, va_up]
      rfl
    · rcases (show j = 0 ∨ j = 1 ∨ j = 2 by omega) with rfl | rfl | rfl
      · simp [setI, va_up, L00, p00]
      · simp [setI, va_up, L00, p00]
      · simp [setI, va_up, L00, p00]
    · simp [setI, va_up]
    · simp [setI, va_up]
  · rw [f1.2.2, a17, e17, sI_s]
    rfl
  · rw [f1.2.1, a17, e17, sI_n _ _ (by decide), sI_s]
    rfl
  · rw [f1.1 o a1 a2, va_up_ne _ _ a3, va_up_ne _ _ a1, va_up_ne _ _ a2]
end TXG
