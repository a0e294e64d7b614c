theorem PB.row0 {nb nr : Nat} {p : PS} {i : Nat} {x : Int32} (h : PB nb nr p) (hx : rng x 0 7) : PB nb nr (pr p 0 i x) := by
  obtain ⟨⟨h0, h1, h2, h3⟩, h4, h5, h6⟩ := h
  refine ⟨⟨h0, ?_, ?_, ?_⟩, ?_, ?_, h6⟩
  · intro q hq
    · rw [pr_sta (by decide)]
      exact h1 q hq
  · intro q hq
    · rw [pr_sta (by decide)]
      exact h2 q hq
  · intro q hq
    · rw [pr_sta (by decide)]
      exact h3 q hq
  · intro q hq
    · by_cases e : q = i
      · subst e
        rw [pr_self]
        exact hx
      · rw [pr_row e]
        exact h4 q hq
  · intro q hq
    refine ⟨?_, ?_, ?_⟩
    · rw [pr_sta (by decide)]
      exact (h5 q hq).1
    · rw [pr_sta (by decide)]
      exact (h5 q hq).2.1
    · rw [pr_sta (by decide)]
      exact (h5 q hq).2.2
theorem PB.row1 {nb nr : Nat} {p : PS} {i : Nat} {x : Int32} (h : PB nb nr p) (hx : ∃ h, h ≤ 9 ∧ x = nI h) : PB nb nr (pr p 1 i x) := by
  obtain ⟨⟨h0, h1, h2, h3⟩, h4, h5, h6⟩ := h
  refine ⟨⟨h0, ?_, ?_, ?_⟩, ?_, ?_, h6⟩
  · intro q hq
    · rw [pr_sta (by decide)]
      exact h1 q hq
  · intro q hq
    · rw [pr_sta (by decide)]
      exact h2 q hq
  · intro q hq
    · by_cases e : q = i
      · subst e
        rw [pr_self]
        exact hx
      · rw [pr_row e]
        exact h3 q hq
  · intro q hq
    · rw [pr_sta (by decide)]
      exact h4 q hq
  · intro q hq
    refine ⟨?_, ?_, ?_⟩
    · rw [pr_sta (by decide)]
      exact (h5 q hq).1
    · rw [pr_sta (by decide)]
      exact (h5 q hq).2.1
    · rw [pr_sta (by decide)]
      exact (h5 q hq).2.2
theorem PB.row2 {nb nr : Nat} {p : PS} {i : Nat} {x : Int32} (h : PB nb nr p) (hx : okB nb x) : PB nb nr (pr p 2 i x) := by
  obtain ⟨⟨h0, h1, h2, h3⟩, h4, h5, h6⟩ := h
  refine ⟨⟨h0, ?_, ?_, ?_⟩, ?_, ?_, h6⟩
  · intro q hq
    · by_cases e : q = i
      · subst e
        rw [pr_self]
        exact hx
      · rw [pr_row e]
        exact h1 q hq
  · intro q hq
    · rw [pr_sta (by decide)]
      exact h2 q hq
  · intro q hq
    · rw [pr_sta (by decide)]
      exact h3 q hq
  · intro q hq
    · rw [pr_sta (by decide)]
      exact h4 q hq
  · intro q hq
    refine ⟨?_, ?_, ?_⟩
    · rw [pr_sta (by decide)]
      exact (h5 q hq).1
    · rw [pr_sta (by decide)]
      exact (h5 q hq).2.1
    · rw [pr_sta (by decide)]
      exact (h5 q hq).2.2
theorem PB.row3 {nb nr : Nat} {p : PS} {i : Nat} {x : Int32} (h : PB nb nr p) (hx : rng x 0 3) : PB nb nr (pr p 3 i x) := by
  obtain ⟨⟨h0, h1, h2, h3⟩, h4, h5, h6⟩ := h
  refine ⟨⟨h0, ?_, ?_, ?_⟩, ?_, ?_, h6⟩
  · intro q hq
    · rw [pr_sta (by decide)]
      exact h1 q hq
  · intro q hq
    · rw [pr_sta (by decide)]
      exact h2 q hq
  · intro q hq
    · rw [pr_sta (by decide)]
      exact h3 q hq
  · intro q hq
    · rw [pr_sta (by decide)]
      exact h4 q hq
  · intro q hq
    refine ⟨?_, ?_, ?_⟩
    · by_cases e : q = i
      · subst e
        rw [pr_self]
        exact hx
      · rw [pr_row e]
        exact (h5 q hq).1
    · rw [pr_sta (by decide)]
      exact (h5 q hq).2.1
    · rw [pr_sta (by decide)]
      exact (h5 q hq).2.2
theorem PB.row4 {nb nr : Nat} {p : PS} {i : Nat} {x : Int32} (h : PB nb nr p) (hx : okB nb x) : PB nb nr (pr p 4 i x) := by
  obtain ⟨⟨h0, h1, h2, h3⟩, h4, h5, h6⟩ := h
  refine ⟨⟨h0, ?_, ?_, ?_⟩, ?_, ?_, h6⟩
  · intro q hq
    · rw [pr_sta (by decide)]
      exact h1 q hq
  · intro q hq
    · by_cases e : q = i
      · subst e
        rw [pr_self]
        exact hx
      · rw [pr_row e]
        exact h2 q hq
  · intro q hq
    · rw [pr_sta (by decide)]
      exact h3 q hq
  · intro q hq
    · rw [pr_sta (by decide)]
      exact h4 q hq
  · intro q hq
    refine ⟨?_, ?_, ?_⟩
    · rw [pr_sta (by decide)]
      exact (h5 q hq).1
    · rw [pr_sta (by decide)]
      exact (h5 q hq).2.1
    · rw [pr_sta (by decide)]
      exact (h5 q hq).2.2
theorem PB.row5 {nb nr : Nat} {p : PS} {i : Nat} {x : Int32} (h : PB nb nr p) (hx : rng x 1 99) : PB nb nr (pr p 5 i x) := by
  obtain ⟨⟨h0, h1, h2, h3⟩, h4, h5, h6⟩ := h
  refine ⟨⟨h0, ?_, ?_, ?_⟩, ?_, ?_, h6⟩
  · intro q hq
    · rw [pr_sta (by decide)]
      exact h1 q hq
  · intro q hq
    · rw [pr_sta (by decide)]
      exact h2 q hq
  · intro q hq
    · rw [pr_sta (by decide)]
      exact h3 q hq
  · intro q hq
    · rw [pr_sta (by decide)]
      exact h4 q hq
  · intro q hq
    refine ⟨?_, ?_, ?_⟩
    · rw [pr_sta (by decide)]
      exact (h5 q hq).1
    · by_cases e : q = i
      · subst e
        rw [pr_self]
        exact hx
      · rw [pr_row e]
        exact (h5 q hq).2.1
    · rw [pr_sta (by decide)]
      exact (h5 q hq).2.2
theorem PB.row6 {nb nr : Nat} {p : PS} {i : Nat} {x : Int32} (h : PB nb nr p) (hx : rng x 0 255) : PB nb nr (pr p 6 i x) := by
  obtain ⟨⟨h0, h1, h2, h3⟩, h4, h5, h6⟩ := h
  refine ⟨⟨h0, ?_, ?_, ?_⟩, ?_, ?_, h6⟩
  · intro q hq
    · rw [pr_sta (by decide)]
      exact h1 q hq
  · intro q hq
    · rw [pr_sta (by decide)]
      exact h2 q hq
  · intro q hq
    · rw [pr_sta (by decide)]
      exact h3 q hq
  · intro q hq
    · rw [pr_sta (by decide)]
      exact h4 q hq
  · intro q hq
    refine ⟨?_, ?_, ?_⟩
    · rw [pr_sta (by decide)]
      exact (h5 q hq).1
    · rw [pr_sta (by decide)]
      exact (h5 q hq).2.1
    · by_cases e : q = i
      · subst e
        rw [pr_self]
        exact hx
      · rw [pr_row e]
        exact (h5 q hq).2.2
section OB
variable {l : Launch} {ad : ZA} {D : va_G} {ia : Nat → ClassId} {d nb nr r b o : Nat} {s : ZS} {p : PS} {f m w : Int32}
theorem ev_whoHad (ho : zcls o = 0) (hH : HR (s o) nb nr p f w) (hp : PI nb nr p) : Ev l ad D ia (d + 1) mX0_whoHad [.ref (ad o 0), .int (nI b)] s (some (.int (hadB nr 0 p b 0))) s := by
  have hr4 : nr ≤ 4 := hp.1.2
  refine eX0_whoHad ho (fun C hC => ?_)
  have h : ∀ (k r : Nat) (a : Int32), r + k = nr → Z l ad D ia C (some (.int (hadB k r p b a))) s 4 [(0, .ref (ad o 0)), (1, .int (nI b)), (2, .int a), (3, .int (nI r))] [] s := by
    intro k
    induction k with
    | zero =>
      intro r a hk
      refine bX0_whoHad_4 ho hC ⟨fun _ => ⟨rfl, rfl⟩, fun h => ?_⟩
      rw [hH.n4] at h
      exact absurd (nI_le (a := nr) (b := r) (by omega) (by omega)) h
    | succ k ih =>
      intro r a hk
      refine bX0_whoHad_4 ho hC ⟨fun h => ?_, fun _ => ⟨_, _, ev_hasHad ho hH hp (by omega), fun h => ?_, fun h => ?_⟩⟩
      · rw [hH.n4] at h
        exact absurd h (nI_ge (by omega) (by omega))
      · unfold hadB
        by_cases c : hadq p r b = 0
        · rw [if_pos c, nI_1]
          exact ih (r + 1) _ (by omega)
        · rw [if_neg c] at h
          exact absurd h (by decide)
      · unfold hadB
        by_cases c : hadq p r b = 0
        · rw [if_pos c] at h
          exact absurd rfl h
        · rw [if_neg c, nI_1]
          exact ih (r + 1) _ (by omega)
  exact h nr 0 0 (by omega)
theorem mv_bookL {C : ZC} {c : Nat} (hM : MM (s 20) nb nr p f m w) (hp : PI nb nr p) (hb : b < nb) (hc : c < 4) (hC : Zok ad D ia C (d + 2) cX9_book 5 RX9 (some .int)) : ∀ (k r : Nat) (a : Int32), r + k = nr → Z l ad D ia C (some (.int (if c = 3 then hadB k r p b a else p.1 c b))) s 31 [(0, .ref (ad 20 0)), (1, .int (nI b)), (2, .int (nI c)), (3, .int a), (4, .int (nI r))] [] s := by
  have hr4 : nr ≤ 4 := hp.1.2
  intro k
  induction k with
  | zero =>
    intro r a hk
    refine bX9_book_31 hC ⟨fun _ => ⟨fun h => ⟨?_, rfl⟩, fun h => ⟨_, _, mv_of hM hp (by
      have h9 : ¬ 3 ≤ c := fun q => h (nI_le (a := 3) (b := c) q (by omega))
      omega) hb, ?_, rfl⟩⟩, fun h => ?_⟩
    · have h9 : 3 ≤ c := (nI_leI (a := 3) (b := c) (by omega) (by omega)).mp h
      rw [if_pos (by omega)]
      rfl
    · have h9 : ¬ 3 ≤ c := fun q => h (nI_le (a := 3) (b := c) q (by omega))
      rw [if_neg (by omega)]
    · rw [hM.1.2] at h
      exact absurd (nI_le (a := nr) (b := r) (by omega) (by omega)) h
  | succ k ih =>
    intro r a hk
    refine bX9_book_31 hC ⟨fun h => ?_, fun _ => ⟨_, _, mv_had hM hp (by omega), _, _, mv_flag _, ?_⟩⟩
    · rw [hM.1.2] at h
      exact absurd h (nI_ge (by omega) (by omega))
    · have e : (if c = 3 then hadB (k + 1) r p b a else p.1 c b) = (if c = 3 then hadB k (r + 1) p b (if hadq p r b = 0 then a else a ||| (1 <<< (nI r &&& 31))) else p.1 c b) := rfl
      rw [e, nI_1]
      by_cases c1 : hadq p r b = 0
      · rw [if_pos c1, if_pos c1, if_pos rfl, zshl, or0]
        exact ih (r + 1) _ (by omega)
      · rw [if_neg c1, if_neg c1, if_neg (show ¬ (1 : Int32) = 0 by decide)]
        exact ih (r + 1) _ (by omega)
theorem bool_f {b : Bool} (h : ¬ b = true) : b = false := by simpa using h
theorem op_book (hR : RR s) (x y : Int32) : Op l ad D ia s mX8_book mX9_book [.int x, .int y] := by
  obtain ⟨nb, nr, p, tl, tb, flt, sn, sa, K, H, tn, hG, hC, hM⟩ := hR
  have hp := hG.1.1
  have h8 := hp.1.1
  obtain ⟨f, w, hH⟩ := hC.1
  by_cases cx : inN x nb = true
  · obtain ⟨b, hb, rfl⟩ := inN_nI cx
    have hin := vp_in_nI (show b < 8 by omega) (show 8 < 2 ^ 31 by decide)
    have hcl := nI_clamp (show b < 2 ^ 31 by omega)
    have hB := ev_hasB (l := l) (ad := ad) (D := D) (ia := ia) (d := 8) (s := s) (o := 1) rfl hH.n0 h8 (nI b)
    have hMB := mv_isBook (l := l) (ad := ad) (D := D) (ia := ia) (d := 7) (s := s) hM.1.1 h8 (nI b)
    rw [cx] at hB hMB
    by_cases cy : inN y 4 = true
    · obtain ⟨c, hc, rfl⟩ := inN_nI cy
      obtain ⟨v, hev, hMM, hkn⟩ := mv_starts (l := l) (ad := ad) (D := D) (ia := ia) (d := 8) hM.1 hM.2.2.2.1 hp.1.1 hp.1.2
      have hMM2 : MM (va_up s 20 v 20) nb nr p (v.1 18) (v.1 19) (v.1 20) := by rw [va_up_self]; exact hMM
      have hin4 := mv_in0 (l := l) (ad := ad) (D := D) (ia := ia) (d := 8) (s := s) (nI c) (n := 4) (z := 0) (c := 3) (by decide) (by decide)
      rw [cy] at hin4
      refine ⟨.int (if c = 3 then hadB nr 0 p b 0 else p.1 c b), _, _, eX8_book ⟨_, _, hB, fun _ => ⟨fun h => ⟨hin, ?_, rfl⟩, fun h => ⟨hin, ?_, rfl⟩, fun h => ⟨hin, ?_, rfl⟩, fun h => ⟨_, _, ev_whoHad rfl hH hp, ?_, rfl⟩, fun h => ?_⟩, fun h => absurd h (by decide)⟩, eX9_book (fun C hZ => ⟨_, _, hMB, fun h => absurd h (by decide), fun _ => ⟨_, _, hin4, fun _ => ⟨_, hev, mv_bookL hMM2 hp hb hc hZ nr 0 0 (by omega)⟩, fun h => absurd h (by decide)⟩⟩), nb, nr, p, tl, tb, flt, sn, sa, K, H, tn, hG, CR_20 hC, ?_⟩
      · have hc0 : c = 0 := (nI_eq (a := c) (b := 0) (by omega) (by omega)).mp h
        subst hc0
        rw [hcl, hH.g1 hb]
        rfl
      · have hc0 : c = 1 := (nI_eq (a := c) (b := 1) (by omega) (by omega)).mp h
        subst hc0
        rw [hcl, hH.g2 hb]
        rfl
      · have hc0 : c = 2 := (nI_eq (a := c) (b := 2) (by omega) (by omega)).mp h
        subst hc0
        rw [hcl, hH.g3 hb]
        rfl
      · have hc0 : c = 3 := (nI_eq (a := c) (b := 3) (by omega) (by omega)).mp h
        subst hc0
        rfl
      · rcases (show c = 0 ∨ c = 1 ∨ c = 2 ∨ c = 3 by omega) with rfl | rfl | rfl | rfl
        · exact absurd rfl h.1
        · exact absurd rfl h.2.1
        · exact absurd rfl h.2.2.1
        · exact absurd rfl h.2.2.2
      · rw [va_up_self]
        exact MR_km hkn.M hM
    · have hin4 := mv_in0 (l := l) (ad := ad) (D := D) (ia := ia) (d := 8) (s := s) y (n := 4) (z := 0) (c := 3) (by decide) (by decide)
      rw [bool_f cy] at hin4
      refine ⟨.int (-1), _, _, eX8_book ⟨_, _, hB, fun _ => ⟨fun h => ?_, fun h => ?_, fun h => ?_, fun h => ?_, fun h => ⟨rfl, rfl⟩⟩, fun h => absurd h (by decide)⟩, eX9_book (fun C hZ => ⟨_, _, hMB, fun h => absurd h (by decide), fun _ => ⟨_, _, hin4, fun h => absurd rfl h, fun _ => ⟨rfl, rfl⟩⟩⟩), nb, nr, p, tl, tb, flt, sn, sa, K, H, tn, hG, hC, hM⟩
      · subst h
        exact absurd (by decide) cy
      · subst h
        exact absurd (by decide) cy
      · subst h
        exact absurd (by decide) cy
      · subst h
        exact absurd (by decide) cy
  · have hB := ev_hasB (l := l) (ad := ad) (D := D) (ia := ia) (d := 8) (s := s) (o := 1) rfl hH.n0 h8 x
    have hMB := mv_isBook (l := l) (ad := ad) (D := D) (ia := ia) (d := 7) (s := s) hM.1.1 h8 x
    rw [bool_f cx] at hB hMB
    exact ⟨.int (-1), _, _, eX8_book ⟨_, _, hB, fun h => absurd rfl h, fun _ => ⟨rfl, rfl⟩⟩, eX9_book (fun C hZ => ⟨_, _, hMB, fun _ => ⟨rfl, rfl⟩, fun h => absurd rfl h⟩), nb, nr, p, tl, tb, flt, sn, sa, K, H, tn, hG, hC, hM⟩
theorem ev_replace {o k n i : Nat} (hz : zis o k 0 n) (hi : i < n) (hn : n < 2 ^ 31) (x : Int32) : Ev l ad D ia d mX8_replace [.ref (ad o (k + 1)), .int (nI i), .int x] s (some (.int ((s o).2.2 k i))) (va_up s o (setA (s o) k (upd ((s o).2.2 k) i x))) := by
  refine eX8_replace hz ⟨vp_in_nI hi hn, vp_in_nI hi hn, fun s1 e1 => ?_⟩
  rw [nI_clamp (by omega)] at e1 ⊢
  exact ⟨rfl, e1.symm⟩
theorem ev_isBookOrNone (ho : zcls o = 0) (hH : (s o).1 0 = nI nb) (h8 : nb ≤ 8) (x : Int32) : Ev l ad D ia (d + 1) mX0_isBookOrNone [.ref (ad o 0), .int x] s (some (.int (b1 (x == 9 || inN x nb)))) s := by
  refine eX0_isBookOrNone ho ⟨fun h => ⟨?_, rfl⟩, fun h => ⟨_, _, ev_hasB ho hH h8 x, fun h2 => ⟨?_, rfl⟩, fun h2 => ⟨?_, rfl⟩⟩⟩
  · subst h; rfl
  · rw [b1_ne.mp h2, beq_false_of_ne h]; rfl
  · rw [b1_n.mp h2, Bool.or_true]; rfl
theorem mv_isBookOrNone (hM : (s 20).1 3 = nI nb) (h8 : nb ≤ 8) (x : Int32) : Ev l ad D ia (d + 2) mX9_isBookOrNone [.ref (ad 20 0), .int x] s (some (.int (b1 (x == 9 || inN x nb)))) s := by
  refine eX9_isBookOrNone ⟨fun h => ⟨?_, rfl⟩, fun h => ⟨_, _, mv_isBook hM h8 x, fun h2 => ⟨?_, rfl⟩, fun h2 => ⟨?_, rfl⟩⟩⟩
  · subst h; rfl
  · rw [b1_ne.mp h2, beq_false_of_ne h]; rfl
  · rw [b1_n.mp h2, Bool.or_true]; rfl
def said (x : Int32) : Int32 := if x = 9 then -4 else x
theorem ev_bookSaid (x : Int32) : Ev l ad D ia d mX8_bookSaid [.int x] s (some (.int (said x))) s := by
  unfold said
  refine eX8_bookSaid ⟨fun h => ⟨?_, rfl⟩, fun h => ⟨?_, rfl⟩⟩
  · rw [if_neg h]
  · rw [if_pos h]
theorem mv_asKept (x : Int32) : Ev l ad D ia d mX9_asKept [.int x] s (some (.int (said x))) s := by
  unfold said
  refine eX9_asKept ⟨fun h => ⟨?_, rfl⟩, fun h => ⟨?_, rfl⟩⟩
  · rw [if_neg h]
  · rw [if_pos h]
theorem okB_said {x : Int32} (h : (x == 9 || inN x nb) = true) : okB nb (said x) := by
  unfold said
  by_cases c : x = 9
  · rw [if_pos c]
    exact Or.inl rfl
  · rw [if_neg c]
    rw [beq_false_of_ne c, Bool.false_or] at h
    exact Or.inr (inN_nI h)
/-- one cell of a book or a reader is changed on both sides -/
theorem op_cell {nb nr : Nat} {p : PS} {tl : Nat} {tb : Nat → Int32} {flt : Int32} {sn : Nat} {sa : Nat → Nat → Int32} {K : KT} {H : HT} {tn : Int32} (hG : GI nb nr p tl tb sn sa K H) (hC : CR s nb nr p tl tb flt sn sa K H tn) (hM : MR (s 20) nb nr p tl tb flt sn sa K H tn) {p2 : PS} {v : OV} {i : Nat} {x : Int32} (hi : i < 43) (hv : HQ v nb nr p2) (hp2 : PB nb nr p2) (hn : NR (upd ((s 20).2.2 0) i x) nb nr p2) : RR (va_up (va_up s 1 v) 20 (setA ((va_up s 1 v) 20) 0 (upd (((va_up s 1 v) 20).2.2 0) i x))) := by
  refine ⟨nb, nr, p2, tl, tb, flt, sn, sa, K, H, tn, ⟨hp2, hG.2⟩, CR_20 (CR_h hC hv), ?_⟩
  rw [va_up_self, va_up_ne _ _ (by decide)]
  exact MR_a hM (upd_hi (by omega)) (SAT_u hM.2.2.2.1 hi hn)
theorem mv_shelveT {C : ZC} {X : Option Value} {Y : ZS} {t : Bool} {c : Nat} {z : Int32} (hM : (s 20).1 3 = nI nb) (h8 : nb ≤ 8) (hC : Zok ad D ia C (d + 2) cX9_shelve 5 RX9 (some .int)) (x : Int32)
    (h0 : ¬ (inN x nb = true ∧ t = true) → X = some (.int (-1)) ∧ Y = s) (h1 : ∀ b, b < nb → x = nI b → t = true → c < 3 ∧ X = some (.int ((s 20).2.2 0 (3 * b + c))) ∧ Y = va_up s 20 (setA (s 20) 0 (upd ((s 20).2.2 0) (3 * b + c) (if c = 2 then said z else z)))) : Z l ad D ia C X Y 46 [(0, .ref (ad 20 0)), (1, .int x), (2, .int (nI c)), (3, .int z)] [.int (b1 t)] s := by
  refine bX9_shelve_46 hC ⟨_, _, mv_isBook hM h8 x, fun h => h0 (fun q => by rw [b1_ne.mp h] at q; exact absurd q.1 (by decide)), fun h => ⟨fun h2 => h0 (fun q => by rw [b1_ne.mp h2] at q; exact absurd q.2 (by decide)), fun h2 => ?_⟩⟩
  obtain ⟨b, hb, rfl⟩ := inN_nI (b1_n.mp h)
  obtain ⟨hc, hX, hY⟩ := h1 b hb rfl (b1_n.mp h2)
  rw [ixB]
  refine ⟨fun h3 => ⟨_, _, mv_becomes (by omega) _, hX, ?_⟩, fun h3 => ⟨_, _, mv_asKept _, _, _, mv_becomes (by omega) _, hX, ?_⟩⟩
  · rw [if_neg (fun e => h3 (by rw [e]; rfl))] at hY
    exact hY
  · have : c = 2 := (nI_eq (a := c) (b := 2) (by omega) (by omega)).mp h3
    rw [if_pos this] at hY
    exact hY
end OB
