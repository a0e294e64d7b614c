/-! THE TEXT, the reference's side: numbers, books, names -/
theorem MT.fm {v v1 : OV} {tl : Nat} {tb : Nat → Int32} {r : TS} (h : MT v tl tb r) (h1 : v1.1 11 = v.1 11) (h2 : ∀ k, 12 ≤ k → k ≤ 17 → v1.1 k = v.1 k) (h3 : v1.2.2 10 = v.2.2 10) : MT v1 tl tb r := by
  unfold MT at h ⊢
  rw [h1, h3, h2 12 (by decide) (by decide), h2 13 (by decide) (by decide), h2 14 (by decide) (by decide), h2 15 (by decide) (by decide), h2 16 (by decide) (by decide), h2 17 (by decide) (by decide)]
  exact h
theorem MT.I {v : OV} {tl : Nat} {tb : Nat → Int32} {r : TS} (h : MT v tl tb r) {k : Nat} (x : Int32) (hk : k < 11) : MT (setI v k x) tl tb r := h.fm (sI_n _ _ (by omega)) (fun j h1 h2 => sI_n _ _ (by omega)) rfl
theorem MT.W {v : OV} {tl : Nat} {tb : Nat → Int32} {r : TS} (h : MT v tl tb r) (i : Nat) (x : Int32) : MT (arw v 5 i x) tl tb r := h.fm rfl (fun _ _ _ => rfl) (va_up_ne v.2.2 (upd (v.2.2 5) i x) (show 10 ≠ 5 by decide))
/-- what no text touches before its end -/
def KQ (v v1 : OV) : Prop := (∀ k, k < 6 ∨ k = 10 ∨ k = 11 ∨ 17 < k → v1.1 k = v.1 k) ∧ ∀ k, k ≠ 5 → v1.2.2 k = v.2.2 k
theorem KQ.rf (v : OV) : KQ v v := ⟨fun _ _ => rfl, fun _ _ => rfl⟩
theorem KQ.tr {a b c : OV} (h : KQ a b) (h2 : KQ b c) : KQ a c := ⟨fun k hk => (h2.1 k hk).trans (h.1 k hk), fun k hk => (h2.2 k hk).trans (h.2 k hk)⟩
theorem FM.Q {a b : OV} (h : FM a b) : KQ a b := ⟨fun k hk => h.1 k (by omega), fun k _ => by rw [h.2]⟩
theorem KQ.I (v : OV) {k : Nat} (x : Int32) (hk : 6 ≤ k ∧ k ≤ 17 ∧ k ≠ 10 ∧ k ≠ 11) : KQ v (setI v k x) := ⟨fun j hj => sI_n _ _ (by omega), fun _ _ => rfl⟩
theorem KQ.W (v : OV) (i : Nat) (x : Int32) : KQ v (arw v 5 i x) := ⟨fun _ _ => rfl, fun k hk => va_up_ne v.2.2 (upd (v.2.2 5) i x) hk⟩
def FBk (v v1 : OV) : Prop := (∀ k, k ≠ 9 → k < 12 ∨ 17 < k → v1.1 k = v.1 k) ∧ v1.2.2 = v.2.2
theorem FBk.Q {a b : OV} (h : FBk a b) : KQ a b := ⟨fun k hk => h.1 k (by omega) (by omega), fun k _ => by rw [h.2]⟩
section TXN
variable {l : Launch} {ad : ZA} {D : va_G} {ia : Nat → ClassId} {d : Nat} {s : ZS} {tl : Nat} {tb : Nat → Int32} {v : OV}
theorem mv_needR {t : Nat × Nat × Nat} (h : MT v tl tb (.inr t)) (c : Nat) : ∃ v2, Ev l ad D ia d mX9_needs [.ref (ad 20 0), .int 0, .int (nI c)] (va_up s 20 v) none (va_up s 20 v2) ∧ MT v2 tl tb (.inl (c, t.2.1)) ∧ FM v v2 := by
  refine ⟨_, mv_need0 h.2.1 (nI c), ⟨⟨?_, h.1.2⟩, ?_, ?_⟩, (FM.I v _ (by decide)).tr (FM.I _ _ (by decide))⟩
  · rw [sI_n _ _ (by decide), sI_n _ _ (by decide)]
    exact h.1.1
  · rw [sI_n _ _ (by decide), sI_s]
  · rw [sI_s]
    exact h.2.2.2.1
theorem mv_inN (x : Int32) {lo hi : Nat} (h1 : lo < 2 ^ 31) (h2 : hi < 2 ^ 31) : Ev l ad D ia d mX9_in [.long x.toInt64, .long (nI lo).toInt64, .long (nI hi).toInt64] s (some (.int (b1 (decide (lo ≤ x.toInt ∧ x.toInt ≤ hi))))) s := by
  have h := mv_in (l := l) (ad := ad) (D := D) (ia := ia) (d := d) (s := s) x.toInt64 (nI lo).toInt64 (nI hi).toInt64
  rw [i64_toInt, i64_toInt, i64_toInt, nI_toInt h1, nI_toInt h2] at h
  exact h
theorem mt_ne {e : Nat × Nat} (h : MT v tl tb (.inl e)) (ho : okT tl (.inl e)) : ¬ (va_up s 20 v 20).1 16 = 0 := by
  rw [va_up_self, h.2.1]
  exact nI_fl (okE ho)
theorem mt_gt {e : Nat × Nat} (h : MT v tl tb (.inl e)) (ho : okT tl (.inl e)) : ¬ (va_up s 20 v 20).1 16 ≤ 0 := by
  rw [va_up_self, h.2.1]
  have := okE ho
  exact nI_nle (by omega) (by omega)
theorem mv_looked {r : TS} {lo hi : Nat} (h1 : lo < 2 ^ 31) (h2 : hi < 2 ^ 31) (ho : okT tl r) (h : MT v tl tb r) : ∃ x v2, Ev l ad D ia (d + 1) mX9_looked [.ref (ad 20 0), .int (nI lo), .int (nI hi)] (va_up s 20 v) (some (.int x)) (va_up s 20 v2) ∧ MT v2 tl tb (bnd r (chN tb lo hi)) ∧ FM v v2 ∧ (∀ e, bnd r (chN tb lo hi) = .inl e → x = 0) ∧ (∀ t, bnd r (chN tb lo hi) = .inr t → x = val tb t) := by
  have fin : ∀ {e : Nat × Nat} {v2 : OV} (C : ZC), Zok ad D ia C (d + 1) cX9_looked 3 RX9 (some .int) → okT tl (.inl e) → MT v2 tl tb (.inl e) → Z l ad D ia C (some (.int 0)) (va_up s 20 v2) 25 [(0, .ref (ad 20 0)), (1, .int (nI lo)), (2, .int (nI hi))] [] (va_up s 20 v2) := fun C hC ho2 hm => bX9_looked_25 hC ⟨fun q => ⟨fun _ => ⟨rfl, rfl⟩, fun q2 => absurd q2 q⟩, fun q => absurd q (mt_ne hm ho2)⟩
  cases r with
  | inl e => exact ⟨0, v, eX9_looked (fun C hC => ⟨fun _ => fin C hC ho h, fun q => absurd q (mt_ne h ho)⟩), h, FM.rf v, fun _ _ => rfl, fun t e => by injection e⟩
  | inr t =>
    obtain ⟨-, h16, h14, h13, h12, h15⟩ := id h
    have e0 : bnd (.inr t) (chN tb lo hi) = chN tb lo hi t := rfl
    have ht3 := ho.1
    rw [e0]
    unfold chN
    by_cases c : t.1 = 2
    · rw [if_pos c]
      have hv := h15 c
      have hI := mv_inN (l := l) (ad := ad) (D := D) (ia := ia) (d := d) (s := va_up s 20 v) (val tb t) h1 h2
      have st : ∀ {x : Int32} {Y : ZS}, (∀ C : ZC, Zok ad D ia C (d + 1) cX9_looked 3 RX9 (some .int) → Z l ad D ia C (some (.int x)) Y 25 [(0, .ref (ad 20 0)), (1, .int (nI lo)), (2, .int (nI hi))] [] (va_up s 20 v)) → Ev l ad D ia (d + 1) mX9_looked [.ref (ad 20 0), .int (nI lo), .int (nI hi)] (va_up s 20 v) (some (.int x)) Y := fun hz => eX9_looked (fun C hC => ⟨fun q => absurd (by rw [va_up_self]; exact h16) q, fun _ => ⟨fun q => absurd (by rw [va_up_self, h14, c]; rfl) q, fun _ => ⟨_, mv_need1 (by decide) _, hz C hC⟩⟩⟩)
      by_cases c2 : lo ≤ (val tb t).toInt ∧ (val tb t).toInt ≤ hi
      · rw [if_pos c2]
        rw [decide_eq_true c2] at hI
        refine ⟨val tb t, v, st (fun C hC => bX9_looked_25 hC ?_), h, FM.rf v, fun e q => by injection q, fun u q => by injection q with q; rw [q]⟩
        rw [va_up_self, h16, hv]
        refine ⟨fun q => absurd rfl q, fun _ => ⟨_, _, hI, _, mv_need1 (by decide) _, ?_⟩⟩
        rw [va_up_self, h16, hv]
        exact ⟨fun q => absurd rfl q, fun _ => ⟨rfl, rfl⟩⟩
      · rw [if_neg c2]
        rw [decide_eq_false c2] at hI
        obtain ⟨v2, hn, hm, hf⟩ := mv_needR (l := l) (ad := ad) (D := D) (ia := ia) (d := d) (s := s) h 3
        have o2 : okT tl (.inl (3, t.2.1)) := ⟨Nat.le_of_ble_eq_true rfl, Nat.le_of_ble_eq_true rfl, Nat.le_trans ho.2.1 ho.2.2.1⟩
        refine ⟨0, v2, st (fun C hC => bX9_looked_25 hC ?_), hm, hf, fun _ _ => rfl, fun t e => by injection e⟩
        rw [va_up_self, h16, hv]
        exact ⟨fun q => absurd rfl q, fun _ => ⟨_, _, hI, _, hn, fun _ => ⟨rfl, rfl⟩, fun q => absurd q (mt_ne hm o2)⟩⟩
    · rw [if_neg c]
      obtain ⟨v2, hn, hm, hf⟩ := mv_needR (l := l) (ad := ad) (D := D) (ia := ia) (d := d) (s := s) h 2
      have o2 : okT tl (.inl (2, t.2.1)) := ⟨Nat.le_of_ble_eq_true rfl, Nat.le_of_ble_eq_true rfl, Nat.le_trans ho.2.1 ho.2.2.1⟩
      exact ⟨0, v2, eX9_looked (fun C hC => ⟨fun q => absurd (by rw [va_up_self]; exact h16) q, fun _ => ⟨fun _ => ⟨_, hn, fin C hC o2 hm⟩, fun q => absurd ((nI_eq (a := t.1) (b := 2) (by omega) (by omega)).mp (by rw [va_up_self, h14] at q; exact q)) c⟩⟩), hm, hf, fun _ _ => rfl, fun t e => by injection e⟩
theorem mv_readNumber (h160 : tl ≤ 160) (hby : ∀ j, j < tl → rng (tb j) 0 127) {r : TS} {lo hi : Nat} (h1 : lo < 2 ^ 31) (h2 : hi < 2 ^ 31) (ho : okT tl r) (h : MT v tl tb r) : ∃ x v2, Ev l ad D ia (d + 2) mX9_readNumber [.ref (ad 20 0), .int (nI lo), .int (nI hi)] (va_up s 20 v) (some (.int x)) (va_up s 20 v2) ∧ MT v2 tl tb (nxt tl tb (bnd r (chN tb lo hi))) ∧ FM v v2 ∧ (∀ t, bnd r (chN tb lo hi) = .inr t → x = val tb t) := by
  obtain ⟨x, v1, e1, m1, f1, -, x1⟩ := mv_looked (l := l) (ad := ad) (D := D) (ia := ia) (d := d) (s := s) h1 h2 ho h
  obtain ⟨v2, e2, m2, f2⟩ := mv_takes (l := l) (ad := ad) (D := D) (ia := ia) (d := d) (s := s) h160 hby (bndN_ok ho) m1
  exact ⟨x, v2, eX9_readNumber ⟨_, _, e1, _, e2, rfl, rfl⟩, m2, f1.tr f2, x1⟩
theorem mv_readBook (h160 : tl ≤ 160) (hby : ∀ j, j < tl → rng (tb j) 0 127) {r : TS} (ho : okT tl r) (h : MT v tl tb r) : ∃ y v2, Ev l ad D ia (d + 2) mX9_readBook [.ref (ad 20 0)] (va_up s 20 v) (some (.int y)) (va_up s 20 v2) ∧ MT v2 tl tb (nxt tl tb (bnd (bnd r (chN tb 0 9)) (chB8 tb))) ∧ FBk v v2 ∧ (∀ t, bnd (bnd r (chN tb 0 9)) (chB8 tb) = .inr t → y = bO (val tb t) ∧ v2.1 9 = if val tb t < 8 ∧ v.1 9 < val tb t then val tb t else v.1 9) := by
  obtain ⟨x, v1, e1, m1, f1, x0, x1⟩ := mv_looked (l := l) (ad := ad) (D := D) (ia := ia) (d := d) (s := s) (lo := 0) (hi := 9) (by decide) (by decide) ho h
  have o1 := bndN_ok (tb := tb) (lo := 0) (hi := 9) ho
  have g1 := rngN (tb := tb) (r := r) (hi := 9)
  generalize bnd r (chN tb 0 9) = r1 at m1 x0 x1 o1 g1 ⊢
  -- what stands at the call of needs
  obtain ⟨v2, n2, m2, f2⟩ : ∃ v2, Ev l ad D ia (d + 1) mX9_needs [.ref (ad 20 0), .int (if x = 8 then 0 else 1), .int 3] (va_up s 20 v1) none (va_up s 20 v2) ∧ MT v2 tl tb (bnd r1 (chB8 tb)) ∧ FM v1 v2 := by
    cases r1 with
    | inl e => exact ⟨v1, mv_needLt m1 o1 _ _, m1, FM.rf v1⟩
    | inr t =>
      have e0 : bnd (.inr t) (chB8 tb) = chB8 tb t := rfl
      rw [e0, x1 t rfl]
      unfold chB8
      by_cases c : val tb t = 8
      · rw [if_pos c, if_pos c]
        exact mv_needR m1 3
      · rw [if_neg c, if_neg c]
        exact ⟨v1, mv_need1 (by decide) _, m1, FM.rf v1⟩
  have o2 := bndB_ok (tb := tb) o1
  have k2 : ∀ t, bnd r1 (chB8 tb) = .inr t → r1 = .inr t ∧ ¬ val tb t = 8 := fun t e => by
    obtain ⟨u, q1, q2⟩ := bnd_inr e
    obtain ⟨rfl, q3⟩ := chB_inr q2
    exact ⟨q1, q3⟩
  generalize bnd r1 (chB8 tb) = r2 at m2 o2 k2 ⊢
  obtain ⟨v3, e3, m3, f3⟩ := mv_takes (l := l) (ad := ad) (D := D) (ia := ia) (d := d) (s := s) h160 hby o2 m2
  have e9 : v3.1 9 = v.1 9 := by rw [f3.1 9 (by decide), f2.1 9 (by decide), f1.1 9 (by decide)]
  have fA : FBk v v3 := ⟨fun k _ hk => by rw [f3.1 k hk, f2.1 k hk, f1.1 k hk], by rw [f3.2, f2.2, f1.2]⟩
  have st : ∀ {y : Int32} {Y : ZS}, (∀ C : ZC, Zok ad D ia C (d + 2) cX9_readBook 2 RX9 (some .int) → Z l ad D ia C (some (.int y)) Y 20 [(0, .ref (ad 20 0)), (1, .int x)] [.int (if x = 8 then 0 else 1), .ref (ad 20 0)] (va_up s 20 v1)) → Ev l ad D ia (d + 2) mX9_readBook [.ref (ad 20 0)] (va_up s 20 v) (some (.int y)) Y := fun hz => eX9_readBook (fun C hC => by
    have hz := hz C hC
    refine ⟨_, _, e1, fun q => ?_, fun q => ?_⟩
    · rw [if_pos q] at hz
      exact hz
    · rw [if_neg q] at hz
      exact hz)
  have c20 : (va_up s 20 v3 20).1 9 = v.1 9 := by rw [va_up_self]; exact e9
  by_cases c8 : (8 : Int32) ≤ x
  · refine ⟨bO x, v3, st (fun C hC => bX9_readBook_20 hC ⟨_, n2, _, e3, fun _ s6 e6 => ?_, fun q => absurd c8 q⟩), m3, fA, fun t e => ?_⟩
    · rw [stI_up, va_up_self, setI_id rfl] at e6
      subst e6
      unfold bO
      refine ⟨fun q => ⟨by rw [if_neg q], rfl⟩, fun q => ⟨by rw [if_pos q], rfl⟩⟩
    · obtain ⟨q1, q2⟩ := k2 t e
      rw [x1 t q1] at c8 ⊢
      refine ⟨rfl, ?_⟩
      rw [if_neg (fun q => ?_), e9]
      rw [Int32.lt_iff_toInt_lt] at q
      rw [Int32.le_iff_toInt_le] at c8
      omega
  · by_cases c9 : x ≤ v.1 9
    · refine ⟨bO x, v3, st (fun C hC => bX9_readBook_20 hC ⟨_, n2, _, e3, fun q => absurd q c8, fun _ => ⟨fun _ s6 e6 => ?_, fun q => absurd (by rw [c20]; exact c9) q⟩⟩), m3, fA, fun t e => ?_⟩
      · rw [stI_up, va_up_self, setI_id rfl] at e6
        subst e6
        unfold bO
        refine ⟨fun q => ⟨by rw [if_neg q], rfl⟩, fun q => ⟨by rw [if_pos q], rfl⟩⟩
      · obtain ⟨q1, q2⟩ := k2 t e
        rw [x1 t q1] at c9 ⊢
        refine ⟨rfl, ?_⟩
        rw [if_neg (fun q => ?_), e9]
        rw [Int32.le_iff_toInt_le] at c9
        have := Int32.lt_iff_toInt_lt.mp q.2
        omega
    · refine ⟨bO x, setI v3 9 x, st (fun C hC => bX9_readBook_20 hC ⟨_, n2, _, e3, fun q => absurd q c8, fun _ => ⟨fun q => absurd (by rw [c20] at q; exact q) c9, fun _ s11 e11 => ?_⟩⟩), m3.I x (by decide), ⟨fun k h9 hk => by rw [sI_n _ _ h9]; exact fA.1 k h9 hk, fA.2⟩, fun t e => ?_⟩
      · rw [stI_up] at e11
        subst e11
        unfold bO
        refine ⟨fun q => ⟨by rw [if_neg q], rfl⟩, fun q => ⟨by rw [if_pos q], rfl⟩⟩
      · obtain ⟨q1, q2⟩ := k2 t e
        have ex := x1 t q1
        rw [ex] at c9 c8
        rw [ex]
        refine ⟨rfl, ?_⟩
        rw [sI_s, if_pos]
        rw [Int32.le_iff_toInt_le] at c9 c8
        rw [Int32.lt_iff_toInt_lt, Int32.lt_iff_toInt_lt]
        omega
/-! names -/
def isB (tb : Nat → Int32) (t : Nat × Nat × Nat) (n : Nat) (a b c e : Int32) : Bool := decide (t.2.2 - t.2.1 = n) && (decide (tb t.2.1 = a) && (decide (tb (t.2.1 + 1) = b) && (decide (tb (t.2.1 + 2) = c) && decide (tb (t.2.1 + 3) = e))))
theorem mv_is (h160 : tl ≤ 160) {t : Nat × Nat × Nat} (ho : okT tl (.inr t)) (h : MT v tl tb (.inr t)) {n : Nat} (h4 : 4 ≤ n) (h6 : n ≤ 6) (a b c e : Int32) : Ev l ad D ia (d + 1) mX9_is [.ref (ad 20 0), .int (nI n), .int a, .int b, .int c, .int e] (va_up s 20 v) (some (.int (b1 (isB tb t n a b c e)))) (va_up s 20 v) := by
  obtain ⟨⟨h1, hb⟩, h16, h14, h13, h12, h15⟩ := h
  have hle := ho.2.1
  have htl := ho.2.2.1
  have esub : nI t.2.2 - nI t.2.1 = nI (t.2.2 - t.2.1) := pk_sub hle
  have hB := fun (j : Nat) (hj : t.2.1 + j < tl) => mv_byteAt (l := l) (ad := ad) (D := D) (ia := ia) (d := d) (s := s) (tb := tb) h160 h1 hb (q := t.2.1 + j) (by omega)
  have hbt : ∀ j, t.2.1 + j < tl → byA tl tb (t.2.1 + j) = tb (t.2.1 + j) := fun j hj => by unfold byA; rw [if_pos hj]
  refine eX9_is ?_
  rw [va_up_self, h12, h13, esub]
  unfold isB
  by_cases c0 : t.2.2 - t.2.1 = n
  · have b0 := hB 0 (by omega)
    have b1' := hB 1 (by omega)
    have b2 := hB 2 (by omega)
    have b3 := hB 3 (by omega)
    rw [hbt 0 (by omega), Nat.add_zero] at b0
    rw [hbt 1 (by omega)] at b1'
    rw [hbt 2 (by omega)] at b2
    rw [hbt 3 (by omega)] at b3
    rw [decide_eq_true c0, Bool.true_and]
    refine ⟨fun q => absurd (by rw [c0]) q, fun _ => ⟨_, _, b0, fun q => ⟨by rw [decide_eq_false q]; rfl, rfl⟩, fun q => ?_⟩⟩
    rw [decide_eq_true q, Bool.true_and, va_up_self, h13, nI_1]
    refine ⟨_, _, b1', fun q => ⟨by rw [decide_eq_false q]; rfl, rfl⟩, fun q => ?_⟩
    rw [decide_eq_true q, Bool.true_and, va_up_self, h13, show nI t.2.1 + 2 = nI (t.2.1 + 2) from nI_add t.2.1 2]
    refine ⟨_, _, b2, fun q => ⟨by rw [decide_eq_false q]; rfl, rfl⟩, fun q => ?_⟩
    rw [decide_eq_true q, Bool.true_and, va_up_self, h13, show nI t.2.1 + 3 = nI (t.2.1 + 3) from nI_add t.2.1 3]
    refine ⟨_, _, b3, fun q => ⟨by rw [decide_eq_false q]; rfl, rfl⟩, fun q => ⟨by rw [decide_eq_true q]; rfl, rfl⟩⟩
  · rw [decide_eq_false c0, Bool.false_and]
    exact ⟨fun _ => ⟨rfl, rfl⟩, fun q => absurd ((nI_eq (by omega) (by omega)).mp q) c0⟩
theorem mv_ends1 (h160 : tl ≤ 160) {t : Nat × Nat × Nat} (h : MT v tl tb (.inr t)) (hl : t.2.1 + 4 < tl) (a : Int32) : Ev l ad D ia (d + 1) mX9_ends [.ref (ad 20 0), .int a, .int 0] (va_up s 20 v) (some (.int (b1 (decide (tb (t.2.1 + 4) = a))))) (va_up s 20 v) := by
  obtain ⟨⟨h1, hb⟩, h16, h14, h13, h12, h15⟩ := h
  have b4 := mv_byteAt (l := l) (ad := ad) (D := D) (ia := ia) (d := d) (s := s) (tb := tb) h160 h1 hb (q := t.2.1 + 4) (by omega)
  rw [show byA tl tb (t.2.1 + 4) = tb (t.2.1 + 4) by unfold byA; rw [if_pos hl]] at b4
  refine eX9_ends ?_
  rw [va_up_self, h13, show nI t.2.1 + 4 = nI (t.2.1 + 4) from nI_add t.2.1 4]
  exact ⟨_, _, b4, fun q => ⟨by rw [decide_eq_false q]; rfl, rfl⟩, fun q => ⟨fun _ => ⟨by rw [decide_eq_true q]; rfl, rfl⟩, fun q => absurd rfl q⟩⟩
theorem mv_ends2 (h160 : tl ≤ 160) {t : Nat × Nat × Nat} (h : MT v tl tb (.inr t)) (hl : t.2.1 + 5 < tl) (a b : Int32) (hb0 : ¬ b = 0) : Ev l ad D ia (d + 1) mX9_ends [.ref (ad 20 0), .int a, .int b] (va_up s 20 v) (some (.int (b1 (decide (tb (t.2.1 + 4) = a) && decide (tb (t.2.1 + 5) = b))))) (va_up s 20 v) := by
  obtain ⟨⟨h1, hb⟩, h16, h14, h13, h12, h15⟩ := h
  have b4 := mv_byteAt (l := l) (ad := ad) (D := D) (ia := ia) (d := d) (s := s) (tb := tb) h160 h1 hb (q := t.2.1 + 4) (by omega)
  have b5 := mv_byteAt (l := l) (ad := ad) (D := D) (ia := ia) (d := d) (s := s) (tb := tb) h160 h1 hb (q := t.2.1 + 5) (by omega)
  rw [show byA tl tb (t.2.1 + 4) = tb (t.2.1 + 4) by unfold byA; rw [if_pos (by omega)]] at b4
  rw [show byA tl tb (t.2.1 + 5) = tb (t.2.1 + 5) by unfold byA; rw [if_pos hl]] at b5
  refine eX9_ends ?_
  rw [va_up_self, h13, show nI t.2.1 + 4 = nI (t.2.1 + 4) from nI_add t.2.1 4]
  refine ⟨_, _, b4, fun q => ⟨by rw [decide_eq_false q]; rfl, rfl⟩, fun q => ⟨fun q2 => absurd q2 hb0, fun _ => ?_⟩⟩
  rw [decide_eq_true q, Bool.true_and, va_up_self, h13, show nI t.2.1 + 5 = nI (t.2.1 + 5) from nI_add t.2.1 5]
  exact ⟨_, _, b5, fun q => ⟨by rw [decide_eq_false q]; rfl, rfl⟩, fun q => ⟨by rw [decide_eq_true q]; rfl, rfl⟩⟩
def lnK (tb : Nat → Int32) (t : Nat × Nat × Nat) : Int32 := if wd tb t 1 = true then 0 else if wd tb t 2 = true then 1 else if wd tb t 3 = true then 2 else if wd tb t 4 = true then 3 else if wd tb t 0 = true then 4 else if wd tb t 5 = true then 5 else -4
theorem wd0 {tb : Nat → Int32} {t : Nat × Nat × Nat} : wd tb t 0 = isB tb t 4 98 111 111 107 := by
  unfold isB
  rw [← Bool.and_true (decide (tb (t.2.1 + 3) = 107))]
  rfl
theorem wd1 {tb : Nat → Int32} {t : Nat × Nat × Nat} : wd tb t 1 = (isB tb t 5 103 117 101 115 && decide (tb (t.2.1 + 4) = 116)) := by
  unfold isB
  rw [Bool.and_assoc, Bool.and_assoc, Bool.and_assoc, Bool.and_assoc, ← Bool.and_true (decide (tb (t.2.1 + 4) = 116))]
  rfl
theorem wd2 {tb : Nat → Int32} {t : Nat × Nat × Nat} : wd tb t 2 = (isB tb t 6 110 101 112 104 && (decide (tb (t.2.1 + 4) = 101) && decide (tb (t.2.1 + 5) = 119))) := by
  unfold isB
  rw [Bool.and_assoc, Bool.and_assoc, Bool.and_assoc, Bool.and_assoc, ← Bool.and_true (decide (tb (t.2.1 + 5) = 119))]
  rfl
theorem wd3 {tb : Nat → Int32} {t : Nat × Nat × Nat} : wd tb t 3 = isB tb t 4 108 111 114 100 := by
  unfold isB
  rw [← Bool.and_true (decide (tb (t.2.1 + 3) = 100))]
  rfl
theorem wd4 {tb : Nat → Int32} {t : Nat × Nat × Nat} : wd tb t 4 = isB tb t 4 109 97 105 100 := by
  unfold isB
  rw [← Bool.and_true (decide (tb (t.2.1 + 3) = 100))]
  rfl
theorem wd5 {tb : Nat → Int32} {t : Nat × Nat × Nat} : wd tb t 5 = (isB tb t 5 115 116 101 112 && decide (tb (t.2.1 + 4) = 115)) := by
  unfold isB
  rw [Bool.and_assoc, Bool.and_assoc, Bool.and_assoc, Bool.and_assoc, ← Bool.and_true (decide (tb (t.2.1 + 4) = 115))]
  rfl
theorem isB_len {t : Nat × Nat × Nat} {n : Nat} {a b c e : Int32} (h : isB tb t n a b c e = true) : t.2.2 - t.2.1 = n := by
  unfold isB at h
  exact of_decide_eq_true (Bool.and_eq_true _ _ ▸ h).1
theorem mv_lineNow (h160 : tl ≤ 160) {t : Nat × Nat × Nat} (ho : okT tl (.inr t)) (h : MT v tl tb (.inr t)) : Ev l ad D ia (d + 2) mX9_lineNow [.ref (ad 20 0)] (va_up s 20 v) (some (.int (lnK tb t))) (va_up s 20 v) := by
  have hle := ho.2.1
  have htl := ho.2.2.1
  have i1 := mv_is (l := l) (ad := ad) (D := D) (ia := ia) (d := d) (s := s) h160 ho h (n := 5) (by decide) (by decide) 103 117 101 115
  have i2 := mv_is (l := l) (ad := ad) (D := D) (ia := ia) (d := d) (s := s) h160 ho h (n := 6) (by decide) (by decide) 110 101 112 104
  have i3 := mv_is (l := l) (ad := ad) (D := D) (ia := ia) (d := d) (s := s) h160 ho h (n := 4) (by decide) (by decide) 108 111 114 100
  have i4 := mv_is (l := l) (ad := ad) (D := D) (ia := ia) (d := d) (s := s) h160 ho h (n := 4) (by decide) (by decide) 109 97 105 100
  have i0 := mv_is (l := l) (ad := ad) (D := D) (ia := ia) (d := d) (s := s) h160 ho h (n := 4) (by decide) (by decide) 98 111 111 107
  have i5 := mv_is (l := l) (ad := ad) (D := D) (ia := ia) (d := d) (s := s) h160 ho h (n := 5) (by decide) (by decide) 115 116 101 112
  have j1 : isB tb t 5 103 117 101 115 = true → _ := fun q => mv_ends1 (l := l) (ad := ad) (D := D) (ia := ia) (d := d) (s := s) h160 h (by have := isB_len q; omega) 116
  have j5 : isB tb t 5 115 116 101 112 = true → _ := fun q => mv_ends1 (l := l) (ad := ad) (D := D) (ia := ia) (d := d) (s := s) h160 h (by have := isB_len q; omega) 115
  have j2 : isB tb t 6 110 101 112 104 = true → _ := fun q => mv_ends2 (l := l) (ad := ad) (D := D) (ia := ia) (d := d) (s := s) h160 h (by have := isB_len q; omega) 101 119 (by decide)
  unfold lnK
  rw [wd0, wd1, wd2, wd3, wd4, wd5]
  generalize isB tb t 5 103 117 101 115 = x1 at i1 j1 ⊢
  generalize isB tb t 6 110 101 112 104 = x2 at i2 j2 ⊢
  generalize isB tb t 4 108 111 114 100 = x3 at i3 ⊢
  generalize isB tb t 4 109 97 105 100 = x4 at i4 ⊢
  generalize isB tb t 4 98 111 111 107 = x0 at i0 ⊢
  generalize isB tb t 5 115 116 101 112 = x5 at i5 j5 ⊢
  generalize decide (tb (t.2.1 + 4) = 116) = y1 at j1 ⊢
  generalize (decide (tb (t.2.1 + 4) = 101) && decide (tb (t.2.1 + 5) = 119)) = y2 at j2 ⊢
  generalize decide (tb (t.2.1 + 4) = 115) = y5 at j5 ⊢
  have rest : ∀ C : ZC, Zok ad D ia C (d + 2) cX9_lineNow 1 RX9 (some .int) → Z l ad D ia C (some (.int (if x3 = true then 2 else if x4 = true then 3 else if x0 = true then 4 else if (x5 && y5) = true then 5 else -4))) (va_up s 20 v) 58 [(0, .ref (ad 20 0))] [] (va_up s 20 v) := fun C hC => bX9_lineNow_58 hC ⟨_, _, i3, fun q3 => by
      have e3 := b1_ne.mp q3
      subst e3
      refine ⟨_, _, i4, fun q4 => ?_, fun q4 => ?_⟩
      · have e4 := b1_ne.mp q4
        subst e4
        refine ⟨_, _, i0, fun q0 => ?_, fun q0 => ?_⟩
        · have e0 := b1_ne.mp q0
          subst e0
          refine ⟨_, _, i5, fun q5 => ?_, fun q5 => ?_⟩
          · have e5 := b1_ne.mp q5
            subst e5
            exact ⟨rfl, rfl⟩
          · have e5 := b1_n.mp q5
            refine ⟨_, _, j5 e5, fun q => ?_, fun q => ?_⟩
            · have e6 := b1_ne.mp q
              subst e5
              subst e6
              exact ⟨rfl, rfl⟩
            · have e6 := b1_n.mp q
              subst e5
              subst e6
              exact ⟨rfl, rfl⟩
        · have e0 := b1_n.mp q0
          subst e0
          exact ⟨rfl, rfl⟩
      · have e4 := b1_n.mp q4
        subst e4
        exact ⟨rfl, rfl⟩, fun q3 => by
      have e3 := b1_n.mp q3
      subst e3
      exact ⟨rfl, rfl⟩⟩
  have e9 : ∀ (p : Prop) [Decidable p] (a b : Int32), some (Value.int (if p then a else b)) = some (.int (if p then a else b)) := fun _ _ _ _ => rfl
  generalize (if x3 = true then (2 : Int32) else if x4 = true then 3 else if x0 = true then 4 else if (x5 && y5) = true then 5 else -4) = K5 at rest ⊢
  refine eX9_lineNow (fun C hC => ⟨_, _, i1, fun q1 => ?_, fun q1 => ?_⟩)
  · have e1 := b1_ne.mp q1
    subst e1
    refine ⟨_, _, i2, fun q2 => ?_, fun q2 => ?_⟩
    · have e2 := b1_ne.mp q2
      subst e2
      exact rest C hC
    · have e2 := b1_n.mp q2
      refine ⟨_, _, j2 e2, fun q => ?_, fun q => ?_⟩
      · have e6 := b1_ne.mp q
        subst e2
        subst e6
        exact rest C hC
      · have e6 := b1_n.mp q
        subst e2
        subst e6
        exact ⟨rfl, rfl⟩
  · have e1 := b1_n.mp q1
    refine ⟨_, _, j1 e1, fun q => ?_, fun q => ?_⟩
    · have e6 := b1_ne.mp q
      subst e1
      subst e6
      refine ⟨_, _, i2, fun q2 => ?_, fun q2 => ?_⟩
      · have e2 := b1_ne.mp q2
        subst e2
        exact rest C hC
      · have e2 := b1_n.mp q2
        refine ⟨_, _, j2 e2, fun q => ?_, fun q => ?_⟩
        · have e6 := b1_ne.mp q
          subst e2
          subst e6
          exact rest C hC
        · have e6 := b1_n.mp q
          subst e2
          subst e6
          exact ⟨rfl, rfl⟩
    · have e6 := b1_n.mp q
      subst e1
      subst e6
      exact ⟨rfl, rfl⟩
end TXN
