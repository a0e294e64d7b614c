/-! THE TEXT, the reference's side: lines -/
/-- what the reference's highest says of the books that are named -/
def HI (x : Int32) (L : LQ) : Prop := ∀ n : Nat, n ≤ 8 → (x < nI n ↔ ((∀ i, i < L.1 → L.2.2.1.1 2 i < nI n) ∧ (∀ i, i < L.2.1 → L.2.2.1.1 4 i < nI n)))
def MD (v : OV) (L : LQ) : Prop := (v.1 6 = nI L.1 ∧ v.1 7 = nI L.2.1 ∧ v.1 8 = b1 L.2.2.2) ∧ NR (v.2.2 5) L.1 L.2.1 L.2.2.1 ∧ (v.2.2 5 43 = 0 ∧ ∀ r, r < 4 → v.2.2 5 (24 + 4 * r + 3) = 0) ∧ HI (v.1 9) L
theorem MD.fm {v v1 : OV} {L : LQ} (h : MD v L) (hf : FM v v1) : MD v1 L := by
  unfold MD at h ⊢
  rw [hf.2, hf.1 6 (by decide), hf.1 7 (by decide), hf.1 8 (by decide), hf.1 9 (by decide)]
  exact h
theorem HI.upd {x y : Int32} {L : LQ} (h : HI x L) (hr : 0 ≤ y.toInt ∧ y.toInt ≤ 9) (h8 : ¬ y = 8) : ∀ n : Nat, n ≤ 8 → ((if y < 8 ∧ x < y then y else x) < nI n ↔ (((∀ i, i < L.1 → L.2.2.1.1 2 i < nI n) ∧ (∀ i, i < L.2.1 → L.2.2.1.1 4 i < nI n)) ∧ bO y < nI n)) := by
  intro n hn
  have hh := h n hn
  have e8 : (8 : Int32).toInt = 8 := by decide
  have e9 : (9 : Int32).toInt = 9 := by decide
  have e4 : (-4 : Int32).toInt = -4 := by decide
  have en : (nI n).toInt = (n : Int) := nI_toInt (by omega)
  rw [← hh]
  unfold bO
  by_cases c9 : y = 9
  · rw [if_pos c9, if_neg (by rw [c9]; exact fun q => absurd q.1 (by decide))]
    refine ⟨fun q => ⟨q, ?_⟩, fun q => q.1⟩
    rw [Int32.lt_iff_toInt_lt, en, e4]
    omega
  · rw [if_neg c9]
    have n8 : ¬ y.toInt = 8 := fun q => h8 (Int32.toInt_inj.mp (q.trans e8.symm))
    have n9 : ¬ y.toInt = 9 := fun q => c9 (Int32.toInt_inj.mp (q.trans e9.symm))
    by_cases c : y < 8 ∧ x < y
    · rw [if_pos c]
      have := Int32.lt_iff_toInt_lt.mp c.2
      rw [Int32.lt_iff_toInt_lt, Int32.lt_iff_toInt_lt, en]
      omega
    · rw [if_neg c]
      have l8 : y < 8 := by rw [Int32.lt_iff_toInt_lt, e8]; omega
      have hx : ¬ x < y := fun q => c ⟨l8, q⟩
      rw [Int32.lt_iff_toInt_lt] at hx
      rw [Int32.lt_iff_toInt_lt, Int32.lt_iff_toInt_lt, en]
      omega
theorem upd_i {a : Nat → Int32} {i j : Nat} {x y : Int32} (h : j = i → x = y) (h2 : j ≠ i → a j = y) : upd a i x j = y := by
  by_cases e : j = i
  · rw [e, upd_self]
    exact h e
  · rw [upd_ne _ _ e]
    exact h2 e
def rB (tl : Nat) (tb : Nat → Int32) (r : TS) : TS := nxt tl tb (bnd (bnd (nxt tl tb (bnd (nxt tl tb (bnd r (chN tb 0 7))) (chN tb 0 9))) (chN tb 0 9)) (chB8 tb))
def rR (tl : Nat) (tb : Nat → Int32) (r : TS) : TS := nxt tl tb (bnd (nxt tl tb (bnd (bnd r (chN tb 0 9)) (chB8 tb))) (chN tb 1 99))
def rS (tl : Nat) (tb : Nat → Int32) (r : TS) : TS := nxt tl tb (bnd r (chN tb 0 7))
section TXO
variable {l : Launch} {ad : ZA} {D : va_G} {ia : Nat → ClassId} {d : Nat} {s : ZS} {tl : Nat} {tb : Nat → Int32} {v : OV} {t : Nat × Nat × Nat} {L : LQ}
theorem rB_ok {r : TS} (h : okT tl r) : okT tl (rB tl tb r) := nxt_ok (bndB_ok (bndN_ok (nxt_ok (bndN_ok (nxt_ok (bndN_ok h))))))
theorem rR_ok {r : TS} (h : okT tl r) : okT tl (rR tl tb r) := nxt_ok (bndN_ok (nxt_ok (bndB_ok (bndN_ok h))))
theorem rS_ok {r : TS} (h : okT tl r) : okT tl (rS tl tb r) := nxt_ok (bndN_ok h)
theorem NR.addB {a : Nat → Int32} {nb nr : Nat} {p : PS} (h : NR a nb nr p) (h8 : nb < 8) (h4 : nr ≤ 4) (x y z : Int32) : NR (upd (upd (upd a (3 * nb) x) (3 * nb + 1) y) (3 * nb + 2) z) (nb + 1) nr (pr (pr (pr p 0 nb x) 1 nb y) 2 nb z) := by
  obtain ⟨h1, h2, h3⟩ := h
  refine ⟨?_, ?_, ?_⟩
  · intro c hc b hb
    by_cases e : b = nb
    · subst e
      rcases (show c = 0 ∨ c = 1 ∨ c = 2 by omega) with rfl | rfl | rfl
      · rw [upd_ne _ _ (by omega), upd_ne _ _ (by omega), pr_sta (by decide), pr_sta (by decide), pr_self]
        exact upd_self _ _ _
      · rw [upd_ne _ _ (by omega), upd_self, pr_sta (by decide), pr_self]
      · rw [upd_self, pr_self]
    · rw [upd_ne _ _ (by omega), upd_ne _ _ (by omega), upd_ne _ _ (by omega), h1 c hc b (by omega)]
      rcases (show c = 0 ∨ c = 1 ∨ c = 2 by omega) with rfl | rfl | rfl
      · rw [pr_sta (by decide), pr_sta (by decide), pr_row e]
      · rw [pr_sta (by decide), pr_row e, pr_sta (by decide)]
      · rw [pr_row e, pr_sta (by decide), pr_sta (by decide)]
  · intro c hc r hr
    rw [upd_ne _ _ (by omega), upd_ne _ _ (by omega), upd_ne _ _ (by omega), h2 c hc r hr, pr_sta (by omega), pr_sta (by omega), pr_sta (by omega)]
  · intro j hj
    rw [upd_ne _ _ (by omega), upd_ne _ _ (by omega), upd_ne _ _ (by omega), h3 j hj]
    rfl
theorem NR.addR {a : Nat → Int32} {nb nr : Nat} {p : PS} (h : NR a nb nr p) (h8 : nb ≤ 8) (h4 : nr < 4) (h0 : a (24 + 4 * nr + 3) = 0) (k x y : Int32) : NR (upd (upd (upd a (24 + 4 * nr) k) (24 + 4 * nr + 1) x) (24 + 4 * nr + 2) y) nb (nr + 1) (pr (pr (pr (pr p 3 nr k) 4 nr x) 5 nr y) 6 nr 0) := by
  obtain ⟨h1, h2, h3⟩ := h
  refine ⟨?_, ?_, ?_⟩
  · intro c hc b hb
    rw [upd_ne _ _ (by omega), upd_ne _ _ (by omega), upd_ne _ _ (by omega), h1 c hc b hb, pr_sta (by omega), pr_sta (by omega), pr_sta (by omega), pr_sta (by omega)]
  · intro c hc r hr
    by_cases e : r = nr
    · subst e
      rcases (show c = 0 ∨ c = 1 ∨ c = 2 ∨ c = 3 by omega) with rfl | rfl | rfl | rfl
      · rw [upd_ne _ _ (by omega), upd_ne _ _ (by omega), pr_sta (by decide), pr_sta (by decide), pr_sta (by decide), pr_self]
        exact upd_self _ _ _
      · rw [upd_ne _ _ (by omega), upd_self, pr_sta (by decide), pr_sta (by decide), pr_self]
      · rw [upd_self, pr_sta (by decide), pr_self]
      · rw [upd_ne _ _ (by omega), upd_ne _ _ (by omega), upd_ne _ _ (by omega), h0, pr_self]
    · rw [upd_ne _ _ (by omega), upd_ne _ _ (by omega), upd_ne _ _ (by omega), h2 c hc r (by omega)]
      rcases (show c = 0 ∨ c = 1 ∨ c = 2 ∨ c = 3 by omega) with rfl | rfl | rfl | rfl
      · rw [pr_sta (by decide), pr_sta (by decide), pr_sta (by decide), pr_row e]
      · rw [pr_sta (by decide), pr_sta (by decide), pr_row e, pr_sta (by decide)]
      · rw [pr_sta (by decide), pr_row e, pr_sta (by decide), pr_sta (by decide)]
      · rw [pr_row e, pr_sta (by decide), pr_sta (by decide), pr_sta (by decide)]
  · intro j hj
    rw [upd_ne _ _ (by omega), upd_ne _ _ (by omega), upd_ne _ _ (by omega), h3 j hj]
    rfl
theorem arw_row {k n : Nat} {x : Int32} : (arw v k n x).2.2 k = upd (v.2.2 k) n x := va_up_self _ _ _
theorem mv_lineB (h160 : tl ≤ 160) (hby : ∀ j, j < tl → rng (tb j) 0 127) {r : TS} (ho : okT tl r) (h : MT v tl tb r) (hM : MD v L) (c : L.1 < 8) (h4 : L.2.1 ≤ 4) : ∃ v2, Ev l ad D ia (d + 3) mX9_readLineOf [.ref (ad 20 0), .int 4] (va_up s 20 v) none (va_up s 20 v2) ∧ MT v2 tl tb (rB tl tb r) ∧ KQ v v2 ∧ ((∃ u, rB tl tb r = .inr u) → MD v2 (L.1 + 1, L.2.1, pr (pr (pr L.2.2.1 0 L.1 (vO tb (bnd r (chN tb 0 7)))) 1 L.1 (vO tb (bnd (nxt tl tb (bnd r (chN tb 0 7))) (chN tb 0 9)))) 2 L.1 (bO (vO tb (bnd (nxt tl tb (bnd (nxt tl tb (bnd r (chN tb 0 7))) (chN tb 0 9))) (chN tb 0 9)))), L.2.2.2)) := by
  obtain ⟨⟨m6, m7, m8⟩, mN, ⟨m43, mH⟩, mI⟩ := hM
  unfold rB
  obtain ⟨x1, v1, e1, t1, f1, g1⟩ := mv_readNumber (l := l) (ad := ad) (D := D) (ia := ia) (d := d) (s := s) h160 hby (lo := 0) (hi := 7) (by decide) (by decide) ho h
  have o1 := bndN_ok (tb := tb) (lo := 0) (hi := 7) ho
  generalize bnd r (chN tb 0 7) = r1 at t1 g1 o1 ⊢
  obtain ⟨x2, v2, e2, t2, f2, g2⟩ := mv_readNumber (l := l) (ad := ad) (D := D) (ia := ia) (d := d) (s := s) h160 hby (lo := 0) (hi := 9) (by decide) (by decide) (nxt_ok (tb := tb) o1) (t1.W (3 * L.1) x1)
  have o2 := bndN_ok (tb := tb) (lo := 0) (hi := 9) (nxt_ok (tb := tb) o1)
  generalize q2 : bnd (nxt tl tb r1) (chN tb 0 9) = r2 at t2 g2 o2 ⊢
  obtain ⟨y, v3, e3, t3, f3, g3⟩ := mv_readBook (l := l) (ad := ad) (D := D) (ia := ia) (d := d) (s := s) h160 hby (nxt_ok (tb := tb) o2) (t2.W (3 * L.1 + 1) x2)
  have rg := rngN (tb := tb) (r := nxt tl tb r2) (hi := 9)
  generalize q3 : bnd (nxt tl tb r2) (chN tb 0 9) = r3 at t3 g3 rg ⊢
  have a6 : v1.1 6 = nI L.1 := by rw [f1.1 6 (by decide)]; exact m6
  have b6 : v2.1 6 = nI L.1 := by rw [f2.1 6 (by decide)]; exact a6
  have c6 : v3.1 6 = nI L.1 := by rw [f3.1 6 (by decide) (by decide)]; exact b6
  have ix : ∀ c, c < 3 → 3 * nI L.1 + nI c = nI (3 * L.1 + c) := fun c _ => ixB L.1 c
  have ki : ∀ c, c < 3 → vp_in (nI (3 * L.1 + c)) 62 := fun c hc => vp_in_nI (by omega) (by decide)
  have kc : ∀ c, c < 3 → (nI (3 * L.1 + c)).toNatClampNeg = 3 * L.1 + c := fun c hc => nI_clamp (by omega)
  have kQ : KQ v (setI (arw v3 5 (3 * L.1 + 2) y) 6 (nI (L.1 + 1))) := ((((f1.Q.tr (KQ.W _ _ _)).tr f2.Q).tr (KQ.W _ _ _)).tr f3.Q).tr ((KQ.W _ _ _).tr (KQ.I _ _ (by decide)))
  refine ⟨setI (arw v3 5 (3 * L.1 + 2) y) 6 (nI (L.1 + 1)), eX9_readLineOf ⟨fun _ => ⟨_, _, e1, ?_, fun s6 q6 => ?_⟩, fun q => absurd q (by decide), fun q => absurd rfl q.1⟩, (t3.W _ _).I _ (by decide), kQ, fun ⟨u, eu⟩ => ?_⟩
  · rw [va_up_self, m6]
    have := ki 0 (by decide)
    rw [← ix 0 (by decide)] at this
    exact this
  · rw [va_up_self, m6, show (3 * nI L.1 + 0 : Int32) = nI (3 * L.1 + 0) from ix 0 (by decide), kc 0 (by decide), Nat.add_zero, stA_w] at q6
    subst q6
    refine ⟨_, _, e2, ?_, fun s11 q11 => ?_⟩
    · rw [va_up_self, show (arw v1 5 (3 * L.1) x1).1 6 = nI L.1 from a6, show (3 * nI L.1 + 1 : Int32) = nI (3 * L.1 + 1) from ix 1 (by decide)]
      exact ki 1 (by decide)
    · rw [va_up_self, show (arw v1 5 (3 * L.1) x1).1 6 = nI L.1 from a6, show (3 * nI L.1 + 1 : Int32) = nI (3 * L.1 + 1) from ix 1 (by decide), kc 1 (by decide), stA_w] at q11
      subst q11
      refine ⟨_, _, e3, ?_, fun s16 q16 s17 q17 => ⟨rfl, ?_⟩⟩
      · rw [va_up_self, show (arw v2 5 (3 * L.1 + 1) x2).1 6 = nI L.1 from b6, show (3 * nI L.1 + 2 : Int32) = nI (3 * L.1 + 2) from ix 2 (by decide)]
        exact ki 2 (by decide)
      · rw [va_up_self, show (arw v2 5 (3 * L.1 + 1) x2).1 6 = nI L.1 from b6, show (3 * nI L.1 + 2 : Int32) = nI (3 * L.1 + 2) from ix 2 (by decide), kc 2 (by decide), stA_w] at q16
        subst q16
        rw [va_up_self, show (arw v3 5 (3 * L.1 + 2) y).1 6 = nI L.1 from c6, nI_1, stI_up] at q17
        exact q17.symm
  · obtain ⟨u4, w4⟩ := nxt_inr eu
    obtain ⟨u3, w3, w3'⟩ := bnd_inr w4
    obtain ⟨w5, w6⟩ := chB_inr w3'
    obtain ⟨u5, w7, -⟩ := bnd_inr (q3.trans w3)
    obtain ⟨u6, w8⟩ := nxt_inr w7
    obtain ⟨u7, w9, -⟩ := bnd_inr (q2.trans w8)
    obtain ⟨u8, w10⟩ := nxt_inr w9
    have z1 : vO tb r1 = x1 := by rw [w10]; exact (g1 _ w10).symm
    have z2 : vO tb r2 = x2 := by rw [w8]; exact (g2 _ w8).symm
    obtain ⟨z3, z9⟩ := g3 _ w4
    have z4 : bO (vO tb r3) = y := by
      rw [w3, z3, w5]
      rfl
    have hrow : (arw v3 5 (3 * L.1 + 2) y).2.2 5 = upd (upd (upd (v.2.2 5) (3 * L.1) x1) (3 * L.1 + 1) x2) (3 * L.1 + 2) y := by
      rw [arw_row, f3.2, arw_row, f2.2, arw_row, f1.2]
    rw [z1, z2, z4]
    refine ⟨⟨sI_s _ _ _, ?_, ?_⟩, ?_, ⟨?_, fun r hr => ?_⟩, ?_⟩
    · rw [sI_n _ _ (by decide)]
      show v3.1 7 = _
      rw [f3.1 7 (by decide) (by decide)]
      show v2.1 7 = _
      rw [f2.1 7 (by decide)]
      show v1.1 7 = _
      rw [f1.1 7 (by decide)]
      exact m7
    · rw [sI_n _ _ (by decide)]
      show v3.1 8 = _
      rw [f3.1 8 (by decide) (by decide)]
      show v2.1 8 = _
      rw [f2.1 8 (by decide)]
      show v1.1 8 = _
      rw [f1.1 8 (by decide)]
      exact m8
    · show NR ((arw v3 5 (3 * L.1 + 2) y).2.2 5) _ _ _
      rw [hrow]
      exact mN.addB c h4 x1 x2 y
    · show (arw v3 5 (3 * L.1 + 2) y).2.2 5 43 = 0
      rw [hrow, upd_ne _ _ (by omega), upd_ne _ _ (by omega), upd_ne _ _ (by omega)]
      exact m43
    · show (arw v3 5 (3 * L.1 + 2) y).2.2 5 (24 + 4 * r + 3) = 0
      rw [hrow, upd_ne _ _ (by omega), upd_ne _ _ (by omega), upd_ne _ _ (by omega)]
      exact mH r hr
    · rw [sI_n _ _ (by decide)]
      have d9 : (arw v2 5 (3 * L.1 + 1) x2).1 9 = v.1 9 := by
        show v2.1 9 = _
        rw [f2.1 9 (by decide)]
        show v1.1 9 = _
        rw [f1.1 9 (by decide)]
      rw [d9] at z9
      intro n hn
      have hu := mI.upd (rg u3 w3) w6 n hn
      rw [← w5] at hu
      show v3.1 9 < nI n ↔ _
      rw [z9, hu, ← z3]
      dsimp only
      constructor
      · rintro ⟨⟨k1, k2⟩, k3⟩
        refine ⟨fun i hi => ?_, fun i hi => ?_⟩
        · by_cases e : i = L.1
          · subst e
            rw [pr_self]
            exact k3
          · rw [pr_row e, pr_sta (by decide), pr_sta (by decide)]
            exact k1 i (by omega)
        · rw [pr_sta (by decide), pr_sta (by decide), pr_sta (by decide)]
          exact k2 i hi
      · rintro ⟨k1, k2⟩
        refine ⟨⟨fun i hi => ?_, fun i hi => ?_⟩, ?_⟩
        · have := k1 i (by omega)
          rw [pr_row (by omega), pr_sta (by decide), pr_sta (by decide)] at this
          exact this
        · have := k2 i hi
          rw [pr_sta (by decide), pr_sta (by decide), pr_sta (by decide)] at this
          exact this
        · have := k1 L.1 (by omega)
          rw [pr_self] at this
          exact this
theorem mv_lineR (h160 : tl ≤ 160) (hby : ∀ j, j < tl → rng (tb j) 0 127) {r : TS} (ho : okT tl r) (h : MT v tl tb r) (hM : MD v L) (h8 : L.1 ≤ 8) (c : L.2.1 < 4) {kd : Nat} (hk : kd < 4) : ∃ v2, Ev l ad D ia (d + 3) mX9_readLineOf [.ref (ad 20 0), .int (nI kd)] (va_up s 20 v) none (va_up s 20 v2) ∧ MT v2 tl tb (rR tl tb r) ∧ KQ v v2 ∧ ((∃ u, rR tl tb r = .inr u) → MD v2 (L.1, L.2.1 + 1, pr (pr (pr (pr L.2.2.1 3 L.2.1 (nI kd)) 4 L.2.1 (bO (vO tb (bnd r (chN tb 0 9))))) 5 L.2.1 (vO tb (bnd (nxt tl tb (bnd (bnd r (chN tb 0 9)) (chB8 tb))) (chN tb 1 99)))) 6 L.2.1 0, L.2.2.2)) := by
  obtain ⟨⟨m6, m7, m8⟩, mN, ⟨m43, mH⟩, mI⟩ := hM
  unfold rR
  obtain ⟨y, v1, e1, t1, f1, g1⟩ := mv_readBook (l := l) (ad := ad) (D := D) (ia := ia) (d := d) (s := s) h160 hby ho (h.W (24 + 4 * L.2.1) (nI kd))
  have rg := rngN (tb := tb) (r := r) (hi := 9)
  have o1 := bndN_ok (tb := tb) (lo := 0) (hi := 9) ho
  generalize bnd r (chN tb 0 9) = r1 at t1 g1 rg o1 ⊢
  have o2 := bndB_ok (tb := tb) o1
  generalize q2 : bnd r1 (chB8 tb) = r2 at t1 g1 o2 ⊢
  obtain ⟨x2, v2, e2, t2, f2, g2⟩ := mv_readNumber (l := l) (ad := ad) (D := D) (ia := ia) (d := d) (s := s) h160 hby (lo := 1) (hi := 99) (by decide) (by decide) (nxt_ok (tb := tb) o2) (t1.W (24 + 4 * L.2.1 + 1) y)
  generalize q3 : bnd (nxt tl tb r2) (chN tb 1 99) = r3 at t2 g2 ⊢
  have a7 : v1.1 7 = nI L.2.1 := by rw [f1.1 7 (by decide) (by decide)]; exact m7
  have b7 : v2.1 7 = nI L.2.1 := by rw [f2.1 7 (by decide)]; exact a7
  have ix : ∀ c, c < 3 → 24 + 4 * nI L.2.1 + nI c = nI (24 + 4 * L.2.1 + c) := fun c _ => ixR L.2.1 c
  have ki : ∀ c, c < 3 → vp_in (nI (24 + 4 * L.2.1 + c)) 62 := fun c hc => vp_in_nI (by omega) (by decide)
  have kc : ∀ c, c < 3 → (nI (24 + 4 * L.2.1 + c)).toNatClampNeg = 24 + 4 * L.2.1 + c := fun c hc => nI_clamp (by omega)
  have n4 : ¬ nI kd = 4 := fun q => by have := (nI_eq (a := kd) (b := 4) (by omega) (by omega)).mp q; omega
  have n5 : ¬ nI kd = 5 := fun q => by have := (nI_eq (a := kd) (b := 5) (by omega) (by omega)).mp q; omega
  have kQ : KQ v (setI (arw v2 5 (24 + 4 * L.2.1 + 2) x2) 7 (nI (L.2.1 + 1))) := ((((KQ.W _ _ _).tr f1.Q).tr (KQ.W _ _ _)).tr f2.Q).tr ((KQ.W _ _ _).tr (KQ.I _ _ (by decide)))
  refine ⟨setI (arw v2 5 (24 + 4 * L.2.1 + 2) x2) 7 (nI (L.2.1 + 1)), eX9_readLineOf ⟨fun q => absurd q n4, fun q => absurd q n5, fun _ => ⟨?_, fun s25 q25 => ?_⟩⟩, (t2.W _ _).I _ (by decide), kQ, fun ⟨u, eu⟩ => ?_⟩
  · rw [va_up_self, m7, show (24 + 4 * nI L.2.1 + 0 : Int32) = nI (24 + 4 * L.2.1 + 0) from ix 0 (by decide)]
    exact ki 0 (by decide)
  · rw [va_up_self, m7, show (24 + 4 * nI L.2.1 + 0 : Int32) = nI (24 + 4 * L.2.1 + 0) from ix 0 (by decide), kc 0 (by decide), Nat.add_zero, stA_w] at q25
    subst q25
    refine ⟨_, _, e1, ?_, fun s30 q30 => ?_⟩
    · rw [va_up_self, show (arw v 5 (24 + 4 * L.2.1) (nI kd)).1 7 = nI L.2.1 from m7, show (24 + 4 * nI L.2.1 + 1 : Int32) = nI (24 + 4 * L.2.1 + 1) from ix 1 (by decide)]
      exact ki 1 (by decide)
    · rw [va_up_self, show (arw v 5 (24 + 4 * L.2.1) (nI kd)).1 7 = nI L.2.1 from m7, show (24 + 4 * nI L.2.1 + 1 : Int32) = nI (24 + 4 * L.2.1 + 1) from ix 1 (by decide), kc 1 (by decide), stA_w] at q30
      subst q30
      refine ⟨_, _, e2, ?_, fun s35 q35 s36 q36 => ⟨rfl, ?_⟩⟩
      · rw [va_up_self, show (arw v1 5 (24 + 4 * L.2.1 + 1) y).1 7 = nI L.2.1 from a7, show (24 + 4 * nI L.2.1 + 2 : Int32) = nI (24 + 4 * L.2.1 + 2) from ix 2 (by decide)]
        exact ki 2 (by decide)
      · rw [va_up_self, show (arw v1 5 (24 + 4 * L.2.1 + 1) y).1 7 = nI L.2.1 from a7, show (24 + 4 * nI L.2.1 + 2 : Int32) = nI (24 + 4 * L.2.1 + 2) from ix 2 (by decide), kc 2 (by decide), stA_w] at q35
        subst q35
        rw [va_up_self, show (arw v2 5 (24 + 4 * L.2.1 + 2) x2).1 7 = nI L.2.1 from b7, nI_1, stI_up] at q36
        exact q36.symm
  · obtain ⟨u4, w4⟩ := nxt_inr eu
    obtain ⟨u5, w5, -⟩ := bnd_inr (q3.trans w4)
    obtain ⟨u6, w6⟩ := nxt_inr w5
    obtain ⟨u7, w7, w7'⟩ := bnd_inr (q2.trans w6)
    obtain ⟨w8, w9⟩ := chB_inr w7'
    have z2 : vO tb r3 = x2 := by rw [w4]; exact (g2 _ w4).symm
    obtain ⟨z3, z9⟩ := g1 _ w6
    have z4 : bO (vO tb r1) = y := by
      rw [w7, z3, w8]
      rfl
    have hrow : (arw v2 5 (24 + 4 * L.2.1 + 2) x2).2.2 5 = upd (upd (upd (v.2.2 5) (24 + 4 * L.2.1) (nI kd)) (24 + 4 * L.2.1 + 1) y) (24 + 4 * L.2.1 + 2) x2 := by
      rw [arw_row, f2.2, arw_row, f1.2, arw_row]
    rw [z2, z4]
    refine ⟨⟨?_, sI_s _ _ _, ?_⟩, ?_, ⟨?_, fun r hr => ?_⟩, ?_⟩
    · rw [sI_n _ _ (by decide)]
      show v2.1 6 = _
      rw [f2.1 6 (by decide)]
      show v1.1 6 = _
      rw [f1.1 6 (by decide) (by decide)]
      exact m6
    · rw [sI_n _ _ (by decide)]
      show v2.1 8 = _
      rw [f2.1 8 (by decide)]
      show v1.1 8 = _
      rw [f1.1 8 (by decide) (by decide)]
      exact m8
    · show NR ((arw v2 5 (24 + 4 * L.2.1 + 2) x2).2.2 5) _ _ _
      rw [hrow]
      exact mN.addR h8 c (mH _ c) (nI kd) y x2
    · show (arw v2 5 (24 + 4 * L.2.1 + 2) x2).2.2 5 43 = 0
      rw [hrow, upd_ne _ _ (by omega), upd_ne _ _ (by omega), upd_ne _ _ (by omega)]
      exact m43
    · show (arw v2 5 (24 + 4 * L.2.1 + 2) x2).2.2 5 (24 + 4 * r + 3) = 0
      rw [hrow, upd_ne _ _ (by omega), upd_ne _ _ (by omega), upd_ne _ _ (by omega)]
      exact mH r hr
    · rw [sI_n _ _ (by decide)]
      have d9 : v2.1 9 = v1.1 9 := by
        rw [f2.1 9 (by decide)]
        rfl
      intro n hn
      have hu := mI.upd (rg u7 w7) w9 n hn
      rw [← w8] at hu
      have z9 : v1.1 9 = if val tb u6 < 8 ∧ v.1 9 < val tb u6 then val tb u6 else v.1 9 := z9
      show v2.1 9 < nI n ↔ _
      rw [d9, z9, hu, ← z3]
      dsimp only
      constructor
      · rintro ⟨⟨k1, k2⟩, k3⟩
        refine ⟨fun i hi => ?_, fun i hi => ?_⟩
        · rw [pr_sta (by decide), pr_sta (by decide), pr_sta (by decide), pr_sta (by decide)]
          exact k1 i hi
        · by_cases e : i = L.2.1
          · subst e
            rw [pr_sta (by decide), pr_sta (by decide), pr_self]
            exact k3
          · rw [pr_sta (by decide), pr_sta (by decide), pr_row e, pr_sta (by decide)]
            exact k2 i (by omega)
      · rintro ⟨k1, k2⟩
        refine ⟨⟨fun i hi => ?_, fun i hi => ?_⟩, ?_⟩
        · have := k1 i hi
          rw [pr_sta (by decide), pr_sta (by decide), pr_sta (by decide), pr_sta (by decide)] at this
          exact this
        · have := k2 i (by omega)
          rw [pr_sta (by decide), pr_sta (by decide), pr_row (by omega), pr_sta (by decide)] at this
          exact this
        · have := k2 L.2.1 (by omega)
          rw [pr_sta (by decide), pr_sta (by decide), pr_self] at this
          exact this
theorem mv_lineS (h160 : tl ≤ 160) (hby : ∀ j, j < tl → rng (tb j) 0 127) {r : TS} (ho : okT tl r) (h : MT v tl tb r) (hM : MD v L) (h8 : L.1 ≤ 8) (h4 : L.2.1 ≤ 4) : ∃ v2, Ev l ad D ia (d + 3) mX9_readLineOf [.ref (ad 20 0), .int 5] (va_up s 20 v) none (va_up s 20 v2) ∧ MT v2 tl tb (rS tl tb r) ∧ KQ v v2 ∧ ((∃ u, rS tl tb r = .inr u) → MD v2 (L.1, L.2.1, pz L.2.2.1 0 (vO tb (bnd r (chN tb 0 7))), L.2.2.2)) := by
  obtain ⟨⟨m6, m7, m8⟩, mN, ⟨m43, mH⟩, mI⟩ := hM
  unfold rS
  obtain ⟨x1, v1, e1, t1, f1, g1⟩ := mv_readNumber (l := l) (ad := ad) (D := D) (ia := ia) (d := d) (s := s) h160 hby (lo := 0) (hi := 7) (by decide) (by decide) ho h
  generalize bnd r (chN tb 0 7) = r1 at t1 g1 ⊢
  refine ⟨arw v1 5 40 x1, eX9_readLineOf ⟨fun q => absurd q (by decide), fun _ => ⟨_, _, e1, vp_in_nI (n := 40) (by decide) (by decide), fun s23 q23 => ⟨rfl, ?_⟩⟩, fun q => absurd rfl q.2⟩, t1.W _ _, f1.Q.tr (KQ.W _ _ _), fun ⟨u, eu⟩ => ?_⟩
  · rw [c40, stA_w] at q23
    exact q23.symm
  · obtain ⟨u4, w4⟩ := nxt_inr eu
    have z1 : vO tb r1 = x1 := by rw [w4]; exact (g1 _ w4).symm
    rw [z1]
    have hrow : (arw v1 5 40 x1).2.2 5 = upd (v.2.2 5) 40 x1 := by rw [arw_row, f1.2]
    refine ⟨⟨(f1.1 6 (by decide)).trans m6, (f1.1 7 (by decide)).trans m7, (f1.1 8 (by decide)).trans m8⟩, ?_, ⟨?_, fun r hr => ?_⟩, ?_⟩
    · rw [hrow]
      obtain ⟨n1, n2, n3⟩ := mN
      refine ⟨fun c hc b hb => ?_, fun c hc r hr => ?_, fun j hj => ?_⟩
      · rw [upd_ne _ _ (by dsimp only at hb; omega)]
        exact n1 c hc b hb
      · rw [upd_ne _ _ (by dsimp only at hr; omega)]
        exact n2 c hc r hr
      · by_cases e : j = 0
        · subst e
          rw [upd_self]
          show x1 = va_up L.2.2.1.2 0 x1 0
          rw [va_up_self]
        · rw [upd_ne _ _ (by omega), n3 j hj]
          show L.2.2.1.2 j = va_up L.2.2.1.2 0 x1 j
          rw [va_up_ne _ _ e]
    · rw [hrow, upd_ne _ _ (by omega)]
      exact m43
    · rw [hrow, upd_ne _ _ (by omega)]
      exact mH r hr
    · show HI (v1.1 9) _
      rw [f1.1 9 (by decide)]
      exact mI
end TXO
