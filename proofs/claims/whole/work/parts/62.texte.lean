/-! THE TEXT, the class's side: lines -/
def HC (v : OV) (w : Int32) (r : TS) (L : LQ) : Prop := (∃ nb nr, nb ≤ 8 ∧ nr ≤ 4 ∧ v.1 0 = nI nb ∧ v.1 4 = nI nr) ∧ (∀ t, r = .inr t → HR v L.1 L.2.1 L.2.2.1 0 0 ∧ w = b1 L.2.2.2)
def okL (L : LQ) : Prop := L.1 ≤ 8 ∧ L.2.1 ≤ 4
def FO (s s1 : ZS) : Prop := (∀ o, o ≠ 16 → o ≠ 17 → o ≠ 3 → s1 o = s o) ∧ (s1 17).1 2 = (s 17).1 2
theorem FT.O {a b : ZS} (h : FT a b) : FO a b := ⟨fun o h1 h2 _ => h.1 o h1 h2, h.2.1⟩
theorem FO.tr {a b c : ZS} (h : FO a b) (h2 : FO b c) : FO a c := ⟨fun o h3 h4 h5 => (h2.1 o h3 h4 h5).trans (h.1 o h3 h4 h5), h2.2.trans h.2⟩
theorem FO.up (s : ZS) (v : OV) : FO s (va_up s 3 v) := ⟨fun o _ _ h => va_up_ne _ _ h, by rw [va_up_ne _ _ (by decide)]⟩
theorem TC_up3 {s : ZS} {tl : Nat} {tb : Nat → Int32} {r : TS} (h : TC s tl tb r) (v : OV) : TC (va_up s 3 v) tl tb r := by
  unfold TC at h ⊢
  rw [va_up_ne _ _ (show 16 ≠ 3 by decide), va_up_ne _ _ (show 17 ≠ 3 by decide)]
  exact h
def arw (v : OV) (k n : Nat) (x : Int32) : OV := setA v k (upd (v.2.2 k) n x)
def abV (v : OV) (n : Nat) (x y z : Int32) : OV := setI (arw (arw (arw v 1 n x) 2 n y) 3 n z) 0 (nI (n + 1))
def arV (v : OV) (n : Nat) (k w b : Int32) : OV := setI (arw (arw (arw (arw v 5 n k) 6 n w) 7 n b) 8 n 0) 4 (nI (n + 1))
theorem stA_w (s : ZS) (o k i : Nat) (v : OV) (x : Int32) : stA (va_up s o v) o k i x = va_up s o (arw v k i x) := stA_up s o k i v x
theorem arw_s (v : OV) (k n : Nat) (x : Int32) : (arw v k n x).2.2 k n = x := by
  unfold arw setA
  dsimp only
  rw [va_up_self, upd_self]
theorem arw_n (v : OV) {k k2 : Nat} (n n2 : Nat) (x : Int32) (h : k2 ≠ k) : (arw v k n x).2.2 k2 n2 = v.2.2 k2 n2 := by
  unfold arw setA
  dsimp only
  rw [va_up_ne _ _ h]
theorem HR.ab {v : OV} {nb nr : Nat} {p : PS} {f w : Int32} (h : HR v nb nr p f w) (x y z : Int32) : HR (abV v nb x y z) (nb + 1) nr (pr (pr (pr p 0 nb x) 1 nb y) 2 nb z) f w := by
  have h9 : HR (arw (arw (arw v 1 nb x) 2 nb y) 3 nb z) nb nr (pr (pr (pr p 0 nb x) 1 nb y) 2 nb z) f w := ((h.w1 nb x).w2 nb y).w3 nb z
  obtain ⟨a1, a2, a3, a4, a5, a6⟩ := h9
  unfold abV
  refine ⟨⟨sI_s _ _ _, by rw [sI_n _ _ (by decide)]; exact a1.2⟩, ?_, a3, ?_, by rw [sI_n _ _ (by decide)]; exact a5, by rw [sI_n _ _ (by decide)]; exact a6⟩
  · intro c hc b hb
    by_cases e : b = nb
    · subst e
      show (arw (arw (arw v 1 b x) 2 b y) 3 b z).2.2 (c + 1) b = _
      rcases (show c = 0 ∨ c = 1 ∨ c = 2 by omega) with rfl | rfl | rfl
      · rw [arw_n _ _ _ _ (by decide), arw_n _ _ _ _ (by decide), arw_s, pr_sta (by decide), pr_sta (by decide), pr_self]
      · rw [arw_n _ _ _ _ (by decide), arw_s, pr_sta (by decide), pr_self]
      · rw [arw_s, pr_self]
    · exact a2 c hc b (by omega)
  · intro j hj
    rw [sI_n _ _ (by omega)]
    exact a4 j hj
theorem HR.ar {v : OV} {nb nr : Nat} {p : PS} {f w : Int32} (h : HR v nb nr p f w) (k q b : Int32) : HR (arV v nr k q b) nb (nr + 1) (pr (pr (pr (pr p 3 nr k) 4 nr q) 5 nr b) 6 nr 0) f w := by
  have h9 : HR (arw (arw (arw (arw v 5 nr k) 6 nr q) 7 nr b) 8 nr 0) nb nr (pr (pr (pr (pr p 3 nr k) 4 nr q) 5 nr b) 6 nr 0) f w := (((h.w5 nr k).w6 nr q).w7 nr b).w8 nr 0
  obtain ⟨a1, a2, a3, a4, a5, a6⟩ := h9
  unfold arV
  refine ⟨⟨by rw [sI_n _ _ (by decide)]; exact a1.1, sI_s _ _ _⟩, a2, ?_, ?_, by rw [sI_n _ _ (by decide)]; exact a5, by rw [sI_n _ _ (by decide)]; exact a6⟩
  · intro c hc r hr
    by_cases e : r = nr
    · subst e
      show (arw (arw (arw (arw v 5 r k) 6 r q) 7 r b) 8 r 0).2.2 (c + 5) r = _
      rcases (show c = 0 ∨ c = 1 ∨ c = 2 ∨ c = 3 by omega) with rfl | rfl | rfl | rfl
      · rw [arw_n _ _ _ _ (by decide), arw_n _ _ _ _ (by decide), arw_n _ _ _ _ (by decide), arw_s, pr_sta (by decide), pr_sta (by decide), pr_sta (by decide), pr_self]
      · rw [arw_n _ _ _ _ (by decide), arw_n _ _ _ _ (by decide), arw_s, pr_sta (by decide), pr_sta (by decide), pr_self]
      · rw [arw_n _ _ _ _ (by decide), arw_s, pr_sta (by decide), pr_self]
      · rw [arw_s, pr_self]
    · exact a3 c hc r (by omega)
  · intro j hj
    rw [sI_n _ _ (by omega)]
    exact a4 j hj
theorem nxt_inr {tl : Nat} {tb : Nat → Int32} {r : TS} {u : Nat × Nat × Nat} (h : nxt tl tb r = .inr u) : ∃ t, r = .inr t := (bnd_inr h).imp fun _ h => h.1
section TXL
variable {l : Launch} {ad : ZA} {D : va_G} {ia : Nat → ClassId} {d : Nat} {s : ZS} {tl : Nat} {tb : Nat → Int32} {t : Nat × Nat × Nat} {L : LQ}
theorem ev_addBook {n : Nat} (hv : (s 3).1 0 = nI n) (hn : n < 8) (x y z : Int32) : Ev l ad D ia d mX0_addBook [.ref (ad 3 0), .int x, .int y, .int z] s none (va_up s 3 (abV (s 3) n x y z)) := by
  have hin : vp_in (nI n) 8 := vp_in_nI hn (by decide)
  have hcl : (nI n).toNatClampNeg = n := nI_clamp (by omega)
  refine eX0_addBook rfl ⟨fun h => absurd (by rw [hv] at h; exact h) (nI_ge (a := n) (b := 8) hn (by decide)), fun _ => ⟨by rw [hv]; exact hin, fun s3 e3 => ?_⟩⟩
  rw [hv, hcl] at e3
  have e3 : s3 = va_up s 3 (arw (s 3) 1 n x) := e3
  subst e3
  have q1 : (arw (s 3) 1 n x).1 0 = nI n := hv
  rw [va_up_self, q1, hcl]
  refine ⟨hin, fun s5 e5 => ?_⟩
  rw [stA_w] at e5
  subst e5
  have q2 : (arw (arw (s 3) 1 n x) 2 n y).1 0 = nI n := hv
  rw [va_up_self, q2, hcl]
  refine ⟨hin, fun s7 e7 s8 e8 => ?_⟩
  rw [stA_w] at e7
  subst e7
  have q3 : (arw (arw (arw (s 3) 1 n x) 2 n y) 3 n z).1 0 = nI n := hv
  rw [va_up_self, q3, stI_up, nI_1] at e8
  exact ⟨rfl, e8.symm⟩
theorem ev_addBookF (hv : (s 3).1 0 = nI 8) (x y z : Int32) : Ev l ad D ia d mX0_addBook [.ref (ad 3 0), .int x, .int y, .int z] s none s :=
  eX0_addBook rfl ⟨fun _ => ⟨rfl, rfl⟩, fun h => absurd (by rw [hv]; decide) h⟩
theorem ev_addReader {n : Nat} (hv : (s 3).1 4 = nI n) (hn : n < 4) (x y z : Int32) : Ev l ad D ia d mX0_addReader [.ref (ad 3 0), .int x, .int y, .int z] s none (va_up s 3 (arV (s 3) n x y z)) := by
  have hin : vp_in (nI n) 4 := vp_in_nI hn (by decide)
  have hcl : (nI n).toNatClampNeg = n := nI_clamp (by omega)
  refine eX0_addReader rfl ⟨fun h => absurd (by rw [hv] at h; exact h) (nI_ge (a := n) (b := 4) hn (by decide)), fun _ => ⟨by rw [hv]; exact hin, fun s3 e3 => ?_⟩⟩
  rw [hv, hcl] at e3
  have e3 : s3 = va_up s 3 (arw (s 3) 5 n x) := e3
  subst e3
  have q1 : (arw (s 3) 5 n x).1 4 = nI n := hv
  rw [va_up_self, q1, hcl]
  refine ⟨hin, fun s5 e5 => ?_⟩
  rw [stA_w] at e5
  subst e5
  have q2 : (arw (arw (s 3) 5 n x) 6 n y).1 4 = nI n := hv
  rw [va_up_self, q2, hcl]
  refine ⟨hin, fun s7 e7 => ?_⟩
  rw [stA_w] at e7
  subst e7
  have q3 : (arw (arw (arw (s 3) 5 n x) 6 n y) 7 n z).1 4 = nI n := hv
  rw [va_up_self, q3, hcl]
  refine ⟨hin, fun s9 e9 s10 e10 => ?_⟩
  rw [stA_w] at e9
  subst e9
  have q4 : (arw (arw (arw (arw (s 3) 5 n x) 6 n y) 7 n z) 8 n 0).1 4 = nI n := hv
  rw [va_up_self, q4, stI_up, nI_1] at e10
  exact ⟨rfl, e10.symm⟩
theorem ev_addReaderF (hv : (s 3).1 4 = nI 4) (x y z : Int32) : Ev l ad D ia d mX0_addReader [.ref (ad 3 0), .int x, .int y, .int z] s none s :=
  eX0_addReader rfl ⟨fun _ => ⟨rfl, rfl⟩, fun h => absurd (by rw [hv]; decide) h⟩
theorem rngN {r : TS} {hi : Nat} : ∀ u, bnd r (chN tb 0 hi) = .inr u → 0 ≤ (val tb u).toInt ∧ (val tb u).toInt ≤ hi := by
  intro u e
  obtain ⟨t, -, e2⟩ := bnd_inr e
  obtain ⟨rfl, -, h1, h2⟩ := chN_inr e2
  exact ⟨h1, h2⟩
theorem ev_parseBook (h160 : tl ≤ 160) (ho : okT tl (.inr t)) (h : TC s tl tb (.inr t)) (hH : HC (s 3) ((s 17).1 3) (.inr t) L) (hL : okL L) : ∃ s1, Ev l ad D ia (d + 4) mX3_parseBook [.ref (ad 17 0)] s none s1 ∧ TC s1 tl tb (lnB tl tb t L).1 ∧ HC (s1 3) ((s1 17).1 3) (lnB tl tb t L).1 (lnB tl tb t L).2 ∧ FO s s1 := by
  obtain ⟨hR, hw⟩ := hH.2 t rfl
  have n0 := hR.n0
  have n4 := hR.n4
  unfold lnB
  by_cases c : L.1 < 8
  · rw [if_pos c]
    obtain ⟨x1, s1, h1, t1, f1, l1, v1⟩ := ev_num (l := l) (ad := ad) (D := D) (ia := ia) (d := d) h160 (lo := 0) (hi := 7) (by decide) (by decide) ho h
    have o1 := bndN_ok (tb := tb) (lo := 0) (hi := 7) (nxt_ok (tb := tb) ho)
    generalize bnd (nxt tl tb (.inr t)) (chN tb 0 7) = r1 at t1 l1 v1 o1 ⊢
    obtain ⟨x2, s2, h2, t2, f2, l2, v2⟩ := ev_num (l := l) (ad := ad) (D := D) (ia := ia) (d := d) h160 (lo := 0) (hi := 9) (by decide) (by decide) o1 t1
    have o2 := bndN_ok (tb := tb) (lo := 0) (hi := 9) (nxt_ok (tb := tb) o1)
    generalize e2 : bnd (nxt tl tb r1) (chN tb 0 9) = r2 at t2 l2 v2 o2 ⊢
    obtain ⟨x3, s3, h3, t3, f3, l3, v3⟩ := ev_num (l := l) (ad := ad) (D := D) (ia := ia) (d := d) h160 (lo := 0) (hi := 9) (by decide) (by decide) o2 t2
    have o3 := bndN_ok (tb := tb) (lo := 0) (hi := 9) (nxt_ok (tb := tb) o2)
    have g3 := rngN (tb := tb) (r := nxt tl tb r2) (hi := 9)
    generalize e3 : bnd (nxt tl tb r2) (chN tb 0 9) = r3 at t3 l3 v3 o3 g3 ⊢
    obtain ⟨y, s4, h4, t4, f4, v4⟩ := ev_book9 (l := l) (ad := ad) (D := D) (ia := ia) (d := d + 2) o3 t3 l3 v3 g3
    have o4 := bndB_ok (tb := tb) o3
    generalize e4 : bnd r3 (chB8 tb) = r4 at t4 v4 o4 ⊢
    obtain ⟨s5, h5, t5, f5⟩ := ev_stop (l := l) (ad := ad) (D := D) (ia := ia) (d := d) h160 o4 t4
    generalize e5 : bnd (nxt tl tb r4) chS = r5 at t5 ⊢
    have fA := (((f1.tr f2).tr f3).tr f4).tr f5
    have q3 : s5 3 = s 3 := fA.1 3 (by decide) (by decide)
    have hB := ev_addBook (l := l) (ad := ad) (D := D) (ia := ia) (d := d + 3) (s := s5) (n := L.1) (by rw [q3]; exact n0) c x1 x2 y
    rw [q3] at hB
    refine ⟨_, eX3_parseBook ⟨fun _ => ⟨_, _, h1, _, _, h2, _, _, h3, _, _, h4, _, h5, _, hB, rfl, rfl⟩, fun q => absurd (by rw [n0]; exact nI_lt c (by decide)) q⟩, TC_up3 t5 _, ⟨⟨L.1 + 1, L.2.1, by omega, hL.2, ?_, ?_⟩, fun u e => ⟨?_, ?_⟩⟩, fA.O.tr (FO.up _ _)⟩
    · rw [va_up_self]
      exact sI_s _ _ _
    · rw [va_up_self]
      unfold abV
      rw [sI_n _ _ (by decide)]
      exact n4
    · obtain ⟨u4, q4, -⟩ := bnd_inr (e5.trans e)
      obtain ⟨u5, q5⟩ := nxt_inr q4
      obtain ⟨u6, q6, q7⟩ := bnd_inr (e4.trans q5)
      obtain ⟨u8, q8, -⟩ := bnd_inr (e3.trans q6)
      obtain ⟨u9, q9⟩ := nxt_inr q8
      obtain ⟨u10, q10, -⟩ := bnd_inr (e2.trans q9)
      obtain ⟨u11, q11⟩ := nxt_inr q10
      have w1 : vO tb r1 = x1 := by rw [q11]; exact (v1 _ q11).symm
      have w2 : vO tb r2 = x2 := by rw [q9]; exact (v2 _ q9).symm
      have w3 : bO (vO tb r3) = y := by
        rw [q6]
        have := v4 _ q5
        rw [(chB_inr q7).1] at this
        exact this.symm
      dsimp only
      rw [w1, w2, w3, va_up_self]
      exact hR.ab x1 x2 y
    · rw [va_up_ne _ _ (by decide), fA.2.2]
      exact hw
  · rw [if_neg c]
    have e8 : L.1 = 8 := by have := hL.1; omega
    obtain ⟨s5, h5, t5, f5⟩ := ev_refR (l := l) (ad := ad) (D := D) (ia := ia) (d := d + 3) h 5 t.2.1
    have o5 : okT tl (.inl (5, t.2.1)) := ⟨Nat.le_of_ble_eq_true rfl, Nat.le_of_ble_eq_true rfl, Nat.le_trans ho.2.1 ho.2.2.1⟩
    have q3 : s5 3 = s 3 := f5.1 3 (by decide) (by decide)
    refine ⟨s5, eX3_parseBook ⟨fun q => absurd (by rw [n0, e8] at q; exact q) (by decide), fun _ => ⟨s5, ?_, _, _, ev_numL o5 t5 _ _, _, _, ev_numL o5 t5 _ _, _, _, ev_numL o5 t5 _ _, _, _, ev_book0, _, ev_stopL o5 t5, _, ev_addBookF (by rw [q3, n0, e8]) _ _ _, rfl, rfl⟩⟩, t5, ⟨⟨L.1, L.2.1, hL.1, hL.2, by rw [q3]; exact n0, by rw [q3]; exact n4⟩, fun u e => by injection e⟩, f5.O⟩
    rw [h.2.2.2.1]
    exact h5
theorem ev_parseReader (h160 : tl ≤ 160) (ho : okT tl (.inr t)) (h : TC s tl tb (.inr t)) (hH : HC (s 3) ((s 17).1 3) (.inr t) L) (hL : okL L) (kd : Nat) : ∃ s1, Ev l ad D ia (d + 4) mX3_parseReader [.ref (ad 17 0), .int (nI kd)] s none s1 ∧ TC s1 tl tb (lnR tl tb kd t L).1 ∧ HC (s1 3) ((s1 17).1 3) (lnR tl tb kd t L).1 (lnR tl tb kd t L).2 ∧ FO s s1 := by
  obtain ⟨hR, hw⟩ := hH.2 t rfl
  have n0 := hR.n0
  have n4 := hR.n4
  unfold lnR
  by_cases c : L.2.1 < 4
  · rw [if_pos c]
    obtain ⟨x1, s1, h1, t1, f1, l1, v1⟩ := ev_num (l := l) (ad := ad) (D := D) (ia := ia) (d := d) h160 (lo := 0) (hi := 9) (by decide) (by decide) ho h
    have o1 := bndN_ok (tb := tb) (lo := 0) (hi := 9) (nxt_ok (tb := tb) ho)
    have g1 := rngN (tb := tb) (r := nxt tl tb (.inr t)) (hi := 9)
    generalize bnd (nxt tl tb (.inr t)) (chN tb 0 9) = r1 at t1 l1 v1 o1 g1 ⊢
    obtain ⟨y, s2, h2, t2, f2, v2⟩ := ev_book9 (l := l) (ad := ad) (D := D) (ia := ia) (d := d + 2) o1 t1 l1 v1 g1
    have o2 := bndB_ok (tb := tb) o1
    generalize e2 : bnd r1 (chB8 tb) = r2 at t2 v2 o2 ⊢
    obtain ⟨x3, s3, h3, t3, f3, l3, v3⟩ := ev_num (l := l) (ad := ad) (D := D) (ia := ia) (d := d) h160 (lo := 1) (hi := 99) (by decide) (by decide) o2 t2
    have o3 := bndN_ok (tb := tb) (lo := 1) (hi := 99) (nxt_ok (tb := tb) o2)
    generalize e3 : bnd (nxt tl tb r2) (chN tb 1 99) = r3 at t3 l3 v3 o3 ⊢
    obtain ⟨s5, h5, t5, f5⟩ := ev_stop (l := l) (ad := ad) (D := D) (ia := ia) (d := d) h160 o3 t3
    generalize e5 : bnd (nxt tl tb r3) chS = r5 at t5 ⊢
    have fA := ((f1.tr f2).tr f3).tr f5
    have q3 : s5 3 = s 3 := fA.1 3 (by decide) (by decide)
    have hB := ev_addReader (l := l) (ad := ad) (D := D) (ia := ia) (d := d + 3) (s := s5) (n := L.2.1) (by rw [q3]; exact n4) c (nI kd) y x3
    rw [q3] at hB
    refine ⟨_, eX3_parseReader ⟨fun _ => ⟨_, _, h1, _, _, h2, _, _, h3, _, h5, _, hB, rfl, rfl⟩, fun q => absurd (by rw [n4]; exact nI_lt c (by decide)) q⟩, TC_up3 t5 _, ⟨⟨L.1, L.2.1 + 1, hL.1, by omega, ?_, ?_⟩, fun u e => ⟨?_, ?_⟩⟩, fA.O.tr (FO.up _ _)⟩
    · rw [va_up_self]
      unfold arV
      rw [sI_n _ _ (by decide)]
      exact n0
    · rw [va_up_self]
      exact sI_s _ _ _
    · obtain ⟨u4, q4, -⟩ := bnd_inr (e5.trans e)
      obtain ⟨u5, q5⟩ := nxt_inr q4
      obtain ⟨u6, q6, -⟩ := bnd_inr (e3.trans q5)
      obtain ⟨u7, q7⟩ := nxt_inr q6
      obtain ⟨u8, q8, q9⟩ := bnd_inr (e2.trans q7)
      have w3 : vO tb r3 = x3 := by rw [q5]; exact (v3 _ q5).symm
      have w1 : bO (vO tb r1) = y := by
        rw [q8]
        have := v2 _ q7
        rw [(chB_inr q9).1] at this
        exact this.symm
      dsimp only
      rw [w1, w3, va_up_self]
      exact hR.ar (nI kd) y x3
    · rw [va_up_ne _ _ (by decide), fA.2.2]
      exact hw
  · rw [if_neg c]
    have e8 : L.2.1 = 4 := by have := hL.2; omega
    obtain ⟨s5, h5, t5, f5⟩ := ev_refR (l := l) (ad := ad) (D := D) (ia := ia) (d := d + 3) h 5 t.2.1
    have o5 : okT tl (.inl (5, t.2.1)) := ⟨Nat.le_of_ble_eq_true rfl, Nat.le_of_ble_eq_true rfl, Nat.le_trans ho.2.1 ho.2.2.1⟩
    have q3 : s5 3 = s 3 := f5.1 3 (by decide) (by decide)
    refine ⟨s5, eX3_parseReader ⟨fun q => absurd (by rw [n4, e8] at q; exact q) (by decide), fun _ => ⟨s5, ?_, _, _, ev_numL o5 t5 _ _, _, _, ev_book0, _, _, ev_numL o5 t5 _ _, _, ev_stopL o5 t5, _, ev_addReaderF (by rw [q3, n4, e8]) _ _ _, rfl, rfl⟩⟩, t5, ⟨⟨L.1, L.2.1, hL.1, hL.2, by rw [q3]; exact n0, by rw [q3]; exact n4⟩, fun u e => by injection e⟩, f5.O⟩
    rw [h.2.2.2.1]
    exact h5
theorem TC_17 {r : TS} (h : TC s tl tb r) (k : Nat) (x : Int32) (hk : 2 ≤ k) : TC (va_up s 17 (setI (s 17) k x)) tl tb r := by
  unfold TC at h ⊢
  rw [va_up_ne _ _ (show 16 ≠ 17 by decide), va_up_self, sI_n _ _ (show 0 ≠ k by omega), sI_n _ _ (show 1 ≠ k by omega)]
  exact h
theorem ev_parseSteps (h160 : tl ≤ 160) (ho : okT tl (.inr t)) (h : TC s tl tb (.inr t)) (hH : HC (s 3) ((s 17).1 3) (.inr t) L) (hL : okL L) : ∃ s1, Ev l ad D ia (d + 4) mX3_parseSteps [.ref (ad 17 0)] s none s1 ∧ TC s1 tl tb (lnS tl tb t L).1 ∧ HC (s1 3) ((s1 17).1 3) (lnS tl tb t L).1 (lnS tl tb t L).2 ∧ FO s s1 := by
  obtain ⟨hR, hw⟩ := hH.2 t rfl
  have n0 := hR.n0
  have n4 := hR.n4
  unfold lnS
  by_cases c : L.2.2.2 = false
  · rw [if_pos c]
    rw [c] at hw
    have h' := TC_17 h 3 1 (by decide)
    obtain ⟨x1, s1, h1, t1, f1, l1, v1⟩ := ev_num (l := l) (ad := ad) (D := D) (ia := ia) (d := d) h160 (lo := 0) (hi := 7) (by decide) (by decide) ho h'
    have o1 := bndN_ok (tb := tb) (lo := 0) (hi := 7) (nxt_ok (tb := tb) ho)
    generalize bnd (nxt tl tb (.inr t)) (chN tb 0 7) = r1 at t1 l1 v1 o1 ⊢
    have q3 : s1 3 = s 3 := (f1.1 3 (by decide) (by decide)).trans (va_up_ne _ _ (by decide))
    obtain ⟨s5, h5, t5, f5⟩ := ev_stop (l := l) (ad := ad) (D := D) (ia := ia) (d := d) (s := va_up s1 3 (setI (s 3) 9 x1)) h160 o1 (TC_up3 t1 _)
    generalize e5 : bnd (nxt tl tb r1) chS = r5 at t5 ⊢
    have p3 : s5 3 = setI (s 3) 9 x1 := (f5.1 3 (by decide) (by decide)).trans (va_up_self _ _ _)
    have p17 : (s5 17).1 3 = 1 := by
      rw [f5.2.2, va_up_ne _ _ (by decide), f1.2.2, va_up_self]
      exact sI_s _ _ _
    refine ⟨s5, eX3_parseSteps ⟨fun _ s2 e2 => ?_, fun q => absurd hw q⟩, t5, ⟨⟨L.1, L.2.1, hL.1, hL.2, ?_, ?_⟩, fun u e => ⟨?_, ?_⟩⟩, ?_, ?_⟩
    · have e2 : s2 = va_up s 17 (setI (s 17) 3 1) := e2
      subst e2
      refine ⟨_, _, h1, fun s6 e6 => ?_⟩
      have e6 : s6 = va_up s1 3 (setI (s 3) 9 x1) := by rw [e6, ← q3]; rfl
      subst e6
      exact ⟨s5, h5, rfl, rfl⟩
    · rw [p3, sI_n _ _ (by decide)]
      exact n0
    · rw [p3, sI_n _ _ (by decide)]
      exact n4
    · obtain ⟨u4, q4, -⟩ := bnd_inr (e5.trans e)
      obtain ⟨u5, q5⟩ := nxt_inr q4
      have w1 : vO tb r1 = x1 := by rw [q5]; exact (v1 _ q5).symm
      dsimp only
      rw [w1, p3]
      exact hR.num (j := 0) (by decide) x1
    · rw [p17]
      rfl
    · intro o a1 a2 a3
      rw [f5.1 o a1 a2, va_up_ne _ _ a3, f1.1 o a1 a2, va_up_ne _ _ a2]
    · rw [f5.2.1, va_up_ne _ _ (by decide), f1.2.1, va_up_self, sI_n _ _ (by decide)]
  · rw [if_neg c]
    rw [show L.2.2.2 = true by simpa using c] at hw
    obtain ⟨s5, h5, t5, f5⟩ := ev_refR (l := l) (ad := ad) (D := D) (ia := ia) (d := d + 3) h 4 t.2.1
    have o5 : okT tl (.inl (4, t.2.1)) := ⟨Nat.le_of_ble_eq_true rfl, Nat.le_of_ble_eq_true rfl, Nat.le_trans ho.2.1 ho.2.2.1⟩
    have q3 : s5 3 = s 3 := f5.1 3 (by decide) (by decide)
    have t6 := TC_17 t5 3 1 (by decide)
    have t7 := TC_up3 t6 (setI (s 3) 9 0)
    refine ⟨va_up (va_up s5 17 (setI (s5 17) 3 1)) 3 (setI (s 3) 9 0), eX3_parseSteps ⟨fun q => absurd (by rw [hw] at q; exact q) (by decide), fun _ => ⟨s5, ?_, fun s11 e11 => ?_⟩⟩, t7, ⟨⟨L.1, L.2.1, hL.1, hL.2, ?_, ?_⟩, fun u e => by injection e⟩, ?_, ?_⟩
    · rw [h.2.2.2.1]
      exact h5
    · have e11 : s11 = va_up s5 17 (setI (s5 17) 3 1) := e11
      subst e11
      refine ⟨_, _, ev_numL o5 t6 _ _, fun s15 e15 => ?_⟩
      have e15 : s15 = va_up (va_up s5 17 (setI (s5 17) 3 1)) 3 (setI (s 3) 9 0) := by
        rw [e15, ← q3]
        show va_up _ 3 (setI (va_up s5 17 (setI (s5 17) 3 1) 3) 9 0) = _
        rw [va_up_ne _ _ (show 3 ≠ 17 by decide)]
      subst e15
      exact ⟨_, ev_stopL o5 t7, rfl, rfl⟩
    · rw [va_up_self, sI_n _ _ (by decide)]
      exact n0
    · rw [va_up_self, sI_n _ _ (by decide)]
      exact n4
    · intro o a1 a2 a3
      rw [va_up_ne _ _ a3, va_up_ne _ _ a2, f5.1 o a1 a2]
    · rw [va_up_ne _ _ (by decide), va_up_self, sI_n _ _ (by decide), f5.2.1]
theorem HC_nxt {v : OV} {w : Int32} {r : TS} (h : HC v w r L) : HC v w (nxt tl tb r) L := ⟨h.1, fun u e => by
  obtain ⟨u2, e2⟩ := nxt_inr e
  exact h.2 u2 e2⟩
/-- a line's end -/
theorem ev_lineEnd (h160 : tl ≤ 160) {r : TS} (ho : okT tl r) (h : TC s tl tb r) (hH : HC (s 3) ((s 17).1 3) r L) : ∃ s1, (∀ C : ZC, Zok ad D ia C (d + 5) cX3_parseLine 1 RX3 none → Z l ad D ia C none s1 130 [(0, .ref (ad 17 0))] [] s) ∧ TC s1 tl tb (nxt tl tb r) ∧ HC (s1 3) ((s1 17).1 3) (nxt tl tb r) L ∧ (∀ o, o ≠ 16 → o ≠ 17 → o ≠ 3 → s1 o = s o) ∧ (s1 17).1 2 = (s 17).1 2 + 1 := by
  obtain ⟨s1, h1, t1, f1⟩ := ev_tok (l := l) (ad := ad) (D := D) (ia := ia) (d := d + 2) h160 ho (TC_17 h 2 ((s 17).1 2 + 1) (by decide))
  refine ⟨s1, fun C hC => bX3_parseLine_130 hC (fun s2 e2 => ?_), t1, HC_nxt ⟨?_, fun u e => ?_⟩, fun o a1 a2 a3 => ?_, ?_⟩
  · have e2 : s2 = va_up s 17 (setI (s 17) 2 ((s 17).1 2 + 1)) := e2
    subst e2
    exact ⟨s1, h1, rfl, rfl⟩
  · rw [f1.1 3 (by decide) (by decide), va_up_ne _ _ (by decide)]
    exact hH.1
  · rw [f1.1 3 (by decide) (by decide), va_up_ne _ _ (by decide), f1.2.2, va_up_self, sI_n _ _ (by decide)]
    exact hH.2 u e
  · rw [f1.1 o a1 a2, va_up_ne _ _ a2]
  · rw [f1.2.1, va_up_self, sI_s]
theorem ev_parseLine (h160 : tl ≤ 160) (ho : okT tl (.inr t)) (h : TC s tl tb (.inr t)) (hH : HC (s 3) ((s 17).1 3) (.inr t) L) (hL : okL L) : ∃ s1, Ev l ad D ia (d + 5) mX3_parseLine [.ref (ad 17 0)] s none s1 ∧ TC s1 tl tb (nxt tl tb (lnA tl tb t L).1) ∧ HC (s1 3) ((s1 17).1 3) (nxt tl tb (lnA tl tb t L).1) (lnA tl tb t L).2 ∧ (∀ o, o ≠ 16 → o ≠ 17 → o ≠ 3 → s1 o = s o) ∧ (s1 17).1 2 = (s 17).1 2 + 1 := by
  have w : ∀ i, i < 6 → Ev l ad D ia (d + 4) mX7_isWord [.ref (ad 16 0), .ref (ad 30 i)] s (some (.int (b1 (decide (t.1 = 1) && wd tb t i)))) s := fun i hi => ev_isWord hi h160 ho h.2.2.1 h.2.2.2.1 h.2.2.2.2 h.1.2
  have hoA := lnA_ok (tb := tb) (L := L) ho
  obtain ⟨sR, hE, tR, fR⟩ := ev_refR (l := l) (ad := ad) (D := D) (ia := ia) (d := d + 4) h 2 t.2.1
  have hHR : HC (sR 3) ((sR 17).1 3) (.inl (2, t.2.1)) L := by
    rw [fR.1 3 (by decide) (by decide)]
    exact ⟨hH.1, fun u e => by injection e⟩
  unfold lnA at hoA ⊢
  by_cases c : t.1 = 1
  · rw [if_pos c] at hoA ⊢
    rw [decide_eq_true c] at w
    by_cases c0 : wd tb t 0 = true
    · rw [if_pos c0] at hoA ⊢
      have w0 := w 0 (by decide)
      rw [c0] at w0
      obtain ⟨sA, hA, tA, kA, fA⟩ := ev_parseBook (l := l) (ad := ad) (D := D) (ia := ia) (d := d) h160 ho h hH hL
      obtain ⟨s1, z1, t1, k1, g1, g2⟩ := ev_lineEnd (l := l) (ad := ad) (D := D) (ia := ia) (d := d) h160 hoA tA kA
      exact ⟨s1, eX3_parseLine (fun C hC => ⟨_, _, w0, fun q => absurd q (by decide), fun _ => ⟨sA, hA, z1 C hC⟩⟩), t1, k1, fun o a1 a2 a3 => (g1 o a1 a2 a3).trans (fA.1 o a1 a2 a3), by rw [g2, fA.2]⟩
    · rw [if_neg c0] at hoA ⊢
      by_cases c1 : wd tb t 1 = true
      · rw [if_pos c1] at hoA ⊢
        have w0 := w 0 (by decide)
        rw [bool_f c0] at w0
        have w1 := w 1 (by decide)
        rw [c1] at w1
        obtain ⟨sA, hA, tA, kA, fA⟩ := ev_parseReader (l := l) (ad := ad) (D := D) (ia := ia) (d := d) h160 ho h hH hL 0
        obtain ⟨s1, z1, t1, k1, g1, g2⟩ := ev_lineEnd (l := l) (ad := ad) (D := D) (ia := ia) (d := d) h160 hoA tA kA
        exact ⟨s1, eX3_parseLine (fun C hC => ⟨_, _, w0, fun _ => ⟨_, _, w1, fun q => absurd q (by decide), fun _ => ⟨sA, hA, z1 C hC⟩⟩, fun q => absurd (by decide) q⟩), t1, k1, fun o a1 a2 a3 => (g1 o a1 a2 a3).trans (fA.1 o a1 a2 a3), by rw [g2, fA.2]⟩
      · rw [if_neg c1] at hoA ⊢
        by_cases c2 : wd tb t 2 = true
        · rw [if_pos c2] at hoA ⊢
          have w0 := w 0 (by decide)
          rw [bool_f c0] at w0
          have w1 := w 1 (by decide)
          rw [bool_f c1] at w1
          have w2 := w 2 (by decide)
          rw [c2] at w2
          obtain ⟨sA, hA, tA, kA, fA⟩ := ev_parseReader (l := l) (ad := ad) (D := D) (ia := ia) (d := d) h160 ho h hH hL 1
          obtain ⟨s1, z1, t1, k1, g1, g2⟩ := ev_lineEnd (l := l) (ad := ad) (D := D) (ia := ia) (d := d) h160 hoA tA kA
          exact ⟨s1, eX3_parseLine (fun C hC => ⟨_, _, w0, fun _ => ⟨_, _, w1, fun _ => ⟨_, _, w2, fun q => absurd q (by decide), fun _ => ⟨sA, hA, z1 C hC⟩⟩, fun q => absurd (by decide) q⟩, fun q => absurd (by decide) q⟩), t1, k1, fun o a1 a2 a3 => (g1 o a1 a2 a3).trans (fA.1 o a1 a2 a3), by rw [g2, fA.2]⟩
        · rw [if_neg c2] at hoA ⊢
          by_cases c3 : wd tb t 3 = true
          · rw [if_pos c3] at hoA ⊢
            have w0 := w 0 (by decide)
            rw [bool_f c0] at w0
            have w1 := w 1 (by decide)
            rw [bool_f c1] at w1
            have w2 := w 2 (by decide)
            rw [bool_f c2] at w2
            have w3 := w 3 (by decide)
            rw [c3] at w3
            obtain ⟨sA, hA, tA, kA, fA⟩ := ev_parseReader (l := l) (ad := ad) (D := D) (ia := ia) (d := d) h160 ho h hH hL 2
            obtain ⟨s1, z1, t1, k1, g1, g2⟩ := ev_lineEnd (l := l) (ad := ad) (D := D) (ia := ia) (d := d) h160 hoA tA kA
            exact ⟨s1, eX3_parseLine (fun C hC => ⟨_, _, w0, fun _ => ⟨_, _, w1, fun _ => ⟨_, _, w2, fun _ => ⟨_, _, w3, fun q => absurd q (by decide), fun _ => ⟨sA, hA, z1 C hC⟩⟩, fun q => absurd (by decide) q⟩, fun q => absurd (by decide) q⟩, fun q => absurd (by decide) q⟩), t1, k1, fun o a1 a2 a3 => (g1 o a1 a2 a3).trans (fA.1 o a1 a2 a3), by rw [g2, fA.2]⟩
          · rw [if_neg c3] at hoA ⊢
            by_cases c4 : wd tb t 4 = true
            · rw [if_pos c4] at hoA ⊢
              have w0 := w 0 (by decide)
              rw [bool_f c0] at w0
              have w1 := w 1 (by decide)
              rw [bool_f c1] at w1
              have w2 := w 2 (by decide)
              rw [bool_f c2] at w2
              have w3 := w 3 (by decide)
              rw [bool_f c3] at w3
              have w4 := w 4 (by decide)
              rw [c4] at w4
              obtain ⟨sA, hA, tA, kA, fA⟩ := ev_parseReader (l := l) (ad := ad) (D := D) (ia := ia) (d := d) h160 ho h hH hL 3
              obtain ⟨s1, z1, t1, k1, g1, g2⟩ := ev_lineEnd (l := l) (ad := ad) (D := D) (ia := ia) (d := d) h160 hoA tA kA
              exact ⟨s1, eX3_parseLine (fun C hC => ⟨_, _, w0, fun _ => ⟨_, _, w1, fun _ => ⟨_, _, w2, fun _ => ⟨_, _, w3, fun _ => ⟨_, _, w4, fun q => absurd q (by decide), fun _ => ⟨sA, hA, z1 C hC⟩⟩, fun q => absurd (by decide) q⟩, fun q => absurd (by decide) q⟩, fun q => absurd (by decide) q⟩, fun q => absurd (by decide) q⟩), t1, k1, fun o a1 a2 a3 => (g1 o a1 a2 a3).trans (fA.1 o a1 a2 a3), by rw [g2, fA.2]⟩
            · rw [if_neg c4] at hoA ⊢
              by_cases c5 : wd tb t 5 = true
              · rw [if_pos c5] at hoA ⊢
                have w0 := w 0 (by decide)
                rw [bool_f c0] at w0
                have w1 := w 1 (by decide)
                rw [bool_f c1] at w1
                have w2 := w 2 (by decide)
                rw [bool_f c2] at w2
                have w3 := w 3 (by decide)
                rw [bool_f c3] at w3
                have w4 := w 4 (by decide)
                rw [bool_f c4] at w4
                have w5 := w 5 (by decide)
                rw [c5] at w5
                obtain ⟨sA, hA, tA, kA, fA⟩ := ev_parseSteps (l := l) (ad := ad) (D := D) (ia := ia) (d := d) h160 ho h hH hL
                obtain ⟨s1, z1, t1, k1, g1, g2⟩ := ev_lineEnd (l := l) (ad := ad) (D := D) (ia := ia) (d := d) h160 hoA tA kA
                exact ⟨s1, eX3_parseLine (fun C hC => ⟨_, _, w0, fun _ => ⟨_, _, w1, fun _ => ⟨_, _, w2, fun _ => ⟨_, _, w3, fun _ => ⟨_, _, w4, fun _ => ⟨_, _, w5, fun q => absurd q (by decide), fun _ => ⟨sA, hA, z1 C hC⟩⟩, fun q => absurd (by decide) q⟩, fun q => absurd (by decide) q⟩, fun q => absurd (by decide) q⟩, fun q => absurd (by decide) q⟩, fun q => absurd (by decide) q⟩), t1, k1, fun o a1 a2 a3 => (g1 o a1 a2 a3).trans (fA.1 o a1 a2 a3), by rw [g2, fA.2]⟩
              · rw [if_neg c5] at hoA ⊢
                have w0 := w 0 (by decide)
                rw [bool_f c0] at w0
                have w1 := w 1 (by decide)
                rw [bool_f c1] at w1
                have w2 := w 2 (by decide)
                rw [bool_f c2] at w2
                have w3 := w 3 (by decide)
                rw [bool_f c3] at w3
                have w4 := w 4 (by decide)
                rw [bool_f c4] at w4
                have w5 := w 5 (by decide)
                rw [bool_f c5] at w5
                obtain ⟨s1, z1, t1, k1, g1, g2⟩ := ev_lineEnd (l := l) (ad := ad) (D := D) (ia := ia) (d := d) h160 hoA tR hHR
                exact ⟨s1, eX3_parseLine (fun C hC => ⟨_, _, w0, fun _ => ⟨_, _, w1, fun _ => ⟨_, _, w2, fun _ => ⟨_, _, w3, fun _ => ⟨_, _, w4, fun _ => ⟨_, _, w5, fun _ => ⟨sR, by rw [h.2.2.2.1]; exact hE, z1 C hC⟩, fun q => absurd (by decide) q⟩, fun q => absurd (by decide) q⟩, fun q => absurd (by decide) q⟩, fun q => absurd (by decide) q⟩, fun q => absurd (by decide) q⟩, fun q => absurd (by decide) q⟩), t1, k1, fun o a1 a2 a3 => (g1 o a1 a2 a3).trans (fR.1 o a1 a2), by rw [g2, fR.2.1]⟩
  · rw [if_neg c] at hoA ⊢
    rw [decide_eq_false c] at w
    have w0 := w 0 (by decide)
    rw [Bool.false_and] at w0
    have w1 := w 1 (by decide)
    rw [Bool.false_and] at w1
    have w2 := w 2 (by decide)
    rw [Bool.false_and] at w2
    have w3 := w 3 (by decide)
    rw [Bool.false_and] at w3
    have w4 := w 4 (by decide)
    rw [Bool.false_and] at w4
    have w5 := w 5 (by decide)
    rw [Bool.false_and] at w5
    obtain ⟨s1, z1, t1, k1, g1, g2⟩ := ev_lineEnd (l := l) (ad := ad) (D := D) (ia := ia) (d := d) h160 hoA tR hHR
    exact ⟨s1, eX3_parseLine (fun C hC => ⟨_, _, w0, fun _ => ⟨_, _, w1, fun _ => ⟨_, _, w2, fun _ => ⟨_, _, w3, fun _ => ⟨_, _, w4, fun _ => ⟨_, _, w5, fun _ => ⟨sR, by rw [h.2.2.2.1]; exact hE, z1 C hC⟩, fun q => absurd (by decide) q⟩, fun q => absurd (by decide) q⟩, fun q => absurd (by decide) q⟩, fun q => absurd (by decide) q⟩, fun q => absurd (by decide) q⟩, fun q => absurd (by decide) q⟩), t1, k1, fun o a1 a2 a3 => (g1 o a1 a2 a3).trans (fR.1 o a1 a2), by rw [g2, fR.2.1]⟩
end TXL
