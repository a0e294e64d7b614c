/-! THE RELATION between the class's objects and the reference -/
def inN (x : Int32) (n : Nat) : Bool := decide (0 ≤ x.toInt ∧ x.toInt < n)
theorem nI_of_toInt {x : Int32} (h : 0 ≤ x.toInt) : x = nI x.toInt.toNat := by
  have h1 : x.toInt < 2 ^ 31 := Int32.toInt_lt x
  apply Int32.toInt_inj.mp
  rw [nI_toInt (by omega)]
  omega
theorem inN_iff {x : Int32} {n : Nat} : inN x n = true ↔ 0 ≤ x.toInt ∧ x.toInt < n := by
  unfold inN
  exact decide_eq_true_iff
theorem inN_nI {x : Int32} {n : Nat} (h : inN x n = true) : ∃ k, k < n ∧ x = nI k := by
  have h := inN_iff.mp h
  exact ⟨x.toInt.toNat, by omega, nI_of_toInt h.1⟩
theorem nI_inN {k n : Nat} (h : k < n) (h2 : n ≤ 2 ^ 31) : inN (nI k) n = true := by
  rw [inN_iff, nI_toInt (by omega)]
  omega
theorem i32_0 : (0 : Int32).toInt = 0 := by decide
theorem hasN {x : Int32} {n : Nat} (h : n < 2 ^ 31) : (¬ x < 0 ∧ ¬ nI n ≤ x) ↔ inN x n = true := by
  rw [inN_iff, Int32.lt_iff_toInt_lt, Int32.le_iff_toInt_le, nI_toInt h, i32_0]
  omega
def b1 (b : Bool) : Int32 := if b then 1 else 0
theorem b1_ne {b : Bool} : b1 b = 0 ↔ b = false := by cases b <;> decide
theorem b1_n {b : Bool} : ¬ b1 b = 0 ↔ b = true := by cases b <;> decide
theorem b1_nar (b : Bool) : narrow .boolean (.int (b1 b)) = .int (b1 b) := by cases b <;> rfl
theorem i64_toInt (x : Int32) : x.toInt64.toInt = x.toInt := Int32.toInt_toInt64 x
theorem pred_toInt {n : Nat} (h : n < 2 ^ 31) : (nI n - 1).toInt = (n : Int) - 1 := by
  cases n with
  | zero => decide
  | succ n =>
    rw [nI_pred, nI_toInt (by omega)]
    omega
theorem cpy0 {f g : Nat → Int32} {n b : Nat} (h : b < n) : va_cpy f g 0 0 n b = f b := by
  unfold va_cpy
  rw [if_pos (by omega)]
  congr 1
  omega
theorem c0 : (0 : Int32).toNatClampNeg = 0 := by decide
theorem c4 : (4 : Int32).toNatClampNeg = 4 := by decide
theorem c8 : (8 : Int32).toNatClampNeg = 8 := by decide
theorem c6 : (6 : Int32).toNatClampNeg = 6 := by decide
/-- the reference's kept row, from off on: a library and what was seen -/
def SAT (a : Nat → Int32) (off nb nr : Nat) (p : PS) (sn : Nat) (sa : Nat → Nat → Int32) : Prop := NR (fun k => a (off + k)) nb nr p ∧ a (off + 43) = nI sn ∧ ∀ i j, i < sn → j < 3 → a (off + (44 + 3 * i + j)) = sa i j
def SR (v : OV) (sn : Nat) (sa : Nat → Nat → Int32) : Prop := v.1 0 = nI sn ∧ ∀ i j, i < sn → j < 3 → v.2.2 (j + 1) i = sa i j
abbrev KT : Type := Nat → Int32 × PS × Nat × (Nat → Nat → Int32)
abbrev HT : Type := Nat → Int32 × Int32 × (Nat → Int32)
/-- a house, whatever it counts -/
def HQ (v : OV) (nb nr : Nat) (p : PS) : Prop := ∃ f w, HR v nb nr p f w
def CR (s : ZS) (nb nr : Nat) (p : PS) (tl : Nat) (tb : Nat → Int32) (flt : Int32) (sn : Nat) (sa : Nat → Nat → Int32) (K : KT) (H : HT) (tn : Int32) : Prop :=
  HQ (s 1) nb nr p ∧ ((s 16).1 1 = nI tl ∧ ∀ i, i < tl → (s 16).2.2 0 i = tb i) ∧ ((s 0).1 3 = flt ∧ (s 0).1 7 = tn) ∧ SR (s 7) sn sa ∧
  (∀ k, k < 2 → (s (10 + k)).1 0 = (K k).1 ∧ (¬ (K k).1 = 0 → HQ (s (5 + k)) nb nr (K k).2.1 ∧ SR (s (8 + k)) (K k).2.2.1 (K k).2.2.2)) ∧
  (∀ k, k < 4 → (s (12 + k)).1 0 = (H k).1 ∧ (s (12 + k)).1 1 = (H k).2.1 ∧ ∀ i, i < 40 → (s (12 + k)).2.2 2 i = (H k).2.2 i)
def MR (v : OV) (nb nr : Nat) (p : PS) (tl : Nat) (tb : Nat → Int32) (flt : Int32) (sn : Nat) (sa : Nat → Nat → Int32) (K : KT) (H : HT) (tn : Int32) : Prop :=
  (v.1 3 = nI nb ∧ v.1 4 = nI nr) ∧ (v.1 11 = nI tl ∧ ∀ i, i < tl → v.2.2 10 i = tb i) ∧ (v.1 16 = flt ∧ v.1 32 = tn) ∧ SAT (v.2.2 0) 0 nb nr p sn sa ∧
  (∀ k, k < 2 → v.2.2 2 k = (K k).1 ∧ (¬ (K k).1 = 0 → SAT (v.2.2 0) (62 * (k + 1)) nb nr (K k).2.1 (K k).2.2.1 (K k).2.2.2)) ∧
  (∀ k, k < 4 → v.2.2 29 k = (H k).1 ∧ v.2.2 30 k = (H k).2.1 ∧ ∀ i, i < 40 → v.2.2 31 (40 * k + i) = (H k).2.2 i)
def rng (x : Int32) (lo n : Nat) : Prop := ∃ k, lo ≤ k ∧ k ≤ n ∧ x = nI k
/-- the bounds of a library -/
def PB (nb nr : Nat) (p : PS) : Prop := PI nb nr p ∧ (∀ b, b < nb → rng (p.1 0 b) 0 7) ∧ (∀ r, r < nr → rng (p.1 3 r) 0 3 ∧ rng (p.1 5 r) 1 99 ∧ rng (p.1 6 r) 0 255) ∧ rng (p.2 0) 0 7 ∧ rng (p.2 1) 0 9999 ∧ rng (p.2 2) 0 999
def SB (nr sn : Nat) (sa : Nat → Nat → Int32) : Prop := sn ≤ 6 ∧ ∀ i, i < sn → rng (sa i 0) 0 20 ∧ ∃ r, r < nr ∧ sa i 1 = nI r
def GI (nb nr : Nat) (p : PS) (tl : Nat) (tb : Nat → Int32) (sn : Nat) (sa : Nat → Nat → Int32) (K : KT) (H : HT) : Prop :=
  PB nb nr p ∧ (tl ≤ 160 ∧ ∀ i, i < tl → rng (tb i) 0 127) ∧ SB nr sn sa ∧ (∀ k, k < 2 → ((K k).1 = 0 ∨ (K k).1 = 1) ∧ (¬ (K k).1 = 0 → PB nb nr (K k).2.1 ∧ SB nr (K k).2.2.1 (K k).2.2.2)) ∧
  (∀ k, k < 4 → ((H k).1 = -4 ∨ rng (H k).1 0 2) ∧ rng (H k).2.1 0 40)
def RR (s : ZS) : Prop := ∃ nb nr p tl tb flt sn sa K H tn, GI nb nr p tl tb sn sa K H ∧ CR s nb nr p tl tb flt sn sa K H tn ∧ MR (s 20) nb nr p tl tb flt sn sa K H tn
/-- what the class keeps of the relation when only its working objects changed -/
def KC (s s1 : ZS) : Prop := (∀ o, o = 1 ∨ (5 ≤ o ∧ o ≤ 16) ∨ o = 20 → s1 o = s o) ∧ (s1 0).1 3 = (s 0).1 3 ∧ (s1 0).1 7 = (s 0).1 7
theorem KC.rf (s : ZS) : KC s s := ⟨fun _ _ => rfl, rfl, rfl⟩
theorem KC.tr {a b c : ZS} (h : KC a b) (h2 : KC b c) : KC a c := ⟨fun o ho => (h2.1 o ho).trans (h.1 o ho), h2.2.1.trans h.2.1, h2.2.2.trans h.2.2⟩
theorem KC.up {s : ZS} {o : Nat} {v : OV} (h : ¬ (o = 0 ∨ o = 1 ∨ (5 ≤ o ∧ o ≤ 16) ∨ o = 20)) : KC s (va_up s o v) := ⟨fun q hq => va_up_ne _ _ (by omega), by rw [va_up_ne _ _ (by omega)], by rw [va_up_ne _ _ (by omega)]⟩
theorem CR_kc {s s1 : ZS} {nb nr : Nat} {p : PS} {tl : Nat} {tb : Nat → Int32} {flt : Int32} {sn : Nat} {sa : Nat → Nat → Int32} {K : KT} {H : HT} {tn : Int32} (k : KC s s1) (h : CR s nb nr p tl tb flt sn sa K H tn) : CR s1 nb nr p tl tb flt sn sa K H tn := by
  obtain ⟨h1, h2, h3, h4, h5, h6⟩ := h
  refine ⟨by rw [k.1 1 (by omega)]; exact h1, by rw [k.1 16 (by omega)]; exact h2, by rw [k.2.1, k.2.2]; exact h3, by rw [k.1 7 (by omega)]; exact h4, ?_, ?_⟩
  · intro i hi
    rw [k.1 (10 + i) (by omega), k.1 (5 + i) (by omega), k.1 (8 + i) (by omega)]
    exact h5 i hi
  · intro i hi
    rw [k.1 (12 + i) (by omega)]
    exact h6 i hi
def KM (v v1 : OV) : Prop := (∀ k, k = 3 ∨ k = 4 ∨ k = 11 ∨ k = 16 ∨ k = 32 → v1.1 k = v.1 k) ∧ ∀ k, k = 0 ∨ k = 2 ∨ k = 10 ∨ k = 29 ∨ k = 30 ∨ k = 31 → v1.2.2 k = v.2.2 k
theorem KM.rf (v : OV) : KM v v := ⟨fun _ _ => rfl, fun _ _ => rfl⟩
theorem KM.tr {a b c : OV} (h : KM a b) (h2 : KM b c) : KM a c := ⟨fun o ho => (h2.1 o ho).trans (h.1 o ho), fun o ho => (h2.2 o ho).trans (h.2 o ho)⟩
theorem K0.M {a b : OV} (h : K0 a b) : KM a b := ⟨fun k hk => h.1 k (by omega) (by omega) (by omega) (by omega), fun k hk => h.2.1 k (by omega)⟩
theorem KN.M {a b : OV} (h : KN a b) : KM a b := h.1.M
theorem MR_km {v v1 : OV} {nb nr : Nat} {p : PS} {tl : Nat} {tb : Nat → Int32} {flt : Int32} {sn : Nat} {sa : Nat → Nat → Int32} {K : KT} {H : HT} {tn : Int32} (k : KM v v1) (h : MR v nb nr p tl tb flt sn sa K H tn) : MR v1 nb nr p tl tb flt sn sa K H tn := by
  unfold MR at h ⊢
  rw [k.1 3 (by omega), k.1 4 (by omega), k.1 11 (by omega), k.1 16 (by omega), k.1 32 (by omega), k.2 0 (by omega), k.2 2 (by omega), k.2 10 (by omega), k.2 29 (by omega), k.2 30 (by omega), k.2 31 (by omega)]
  exact h
/-- the reference's change leaves the class -/
theorem CR_20 {s : ZS} {v : OV} {nb nr : Nat} {p : PS} {tl : Nat} {tb : Nat → Int32} {flt : Int32} {sn : Nat} {sa : Nat → Nat → Int32} {K : KT} {H : HT} {tn : Int32} (h : CR s nb nr p tl tb flt sn sa K H tn) : CR (va_up s 20 v) nb nr p tl tb flt sn sa K H tn := by
  have e : ∀ o, o < 20 → va_up s 20 v o = s o := fun o ho => va_up_ne _ _ (by omega)
  obtain ⟨h1, h2, h3, h4, h5, h6⟩ := h
  refine ⟨by rw [e 1 (by omega)]; exact h1, by rw [e 16 (by omega)]; exact h2, by rw [e 0 (by omega)]; exact h3, by rw [e 7 (by omega)]; exact h4, ?_, ?_⟩
  · intro i hi
    rw [e (10 + i) (by omega), e (5 + i) (by omega), e (8 + i) (by omega)]
    exact h5 i hi
  · intro i hi
    rw [e (12 + i) (by omega)]
    exact h6 i hi
/-- A CALL of the law: both answer alike, and the relation holds behind it -/
abbrev OpV : Type := Int32
abbrev OpV.int (x : Int32) : OpV := x
abbrev OpW : Type := Int64
abbrev OpW.long (x : Int64) : OpW := x
def Op (l : Launch) (ad : ZA) (D : va_G) (ia : Nat → ClassId) (s : ZS) (M1 M2 : ZM) (av : List Value) : Prop := ∃ (x : OpV) (s1 s2 : ZS), Ev l ad D ia 9 M1 (.ref (ad 0 0) :: av) s (some (.int x)) s1 ∧ Ev l ad D ia 9 M2 (.ref (ad 20 0) :: av) s1 (some (.int x)) s2 ∧ RR s2
def OpL (l : Launch) (ad : ZA) (D : va_G) (ia : Nat → ClassId) (s : ZS) (M1 M2 : ZM) (av : List Value) : Prop := ∃ (x : OpW) (s1 s2 : ZS), Ev l ad D ia 9 M1 (.ref (ad 0 0) :: av) s (some (.long x)) s1 ∧ Ev l ad D ia 9 M2 (.ref (ad 20 0) :: av) s1 (some (.long x)) s2 ∧ RR s2
section RE
variable {l : Launch} {ad : ZA} {D : va_G} {ia : Nat → ClassId} {d nb nr r b o o1 : Nat} {s : ZS} {p : PS} {f m w : Int32}
theorem ev_out0 (x : Int32) {n : Nat} {y : Int32} (hy : y = nI n) (hn : n + 1 < 2 ^ 31) : Ev l ad D ia d mX8_outside [.int x, .int 0, .int y] s (some (.int (b1 (!inN x (n + 1))))) s := by
  subst hy
  have h := @inN_iff x (n + 1)
  refine eX8_outside ⟨fun h1 => ⟨?_, rfl⟩, fun h1 => ⟨fun h2 => ⟨?_, rfl⟩, fun h2 => ⟨?_, rfl⟩⟩⟩
  · rw [Int32.lt_iff_toInt_lt, i32_0] at h1
    have : inN x (n + 1) = false := by
      cases e : inN x (n + 1)
      · rfl
      · have := h.mp e
        omega
    rw [this]
    rfl
  · rw [Int32.lt_iff_toInt_lt, i32_0] at h1
    rw [Int32.le_iff_toInt_le, nI_toInt (by omega)] at h2
    rw [h.mpr (by omega)]
    rfl
  · rw [Int32.le_iff_toInt_le, nI_toInt (by omega)] at h2
    have : inN x (n + 1) = false := by
      cases e : inN x (n + 1)
      · rfl
      · have := h.mp e
        omega
    rw [this]
    rfl
theorem mv_in (x a c : Int64) : Ev l ad D ia d mX9_in [.long x, .long a, .long c] s (some (.int (b1 (decide (a.toInt ≤ x.toInt ∧ x.toInt ≤ c.toInt))))) s := by
  refine eX9_in ⟨fun h1 => ⟨?_, rfl⟩, fun h1 => ⟨fun h2 => ⟨?_, rfl⟩, fun h2 => ⟨?_, rfl⟩⟩⟩
  · have h : x.toInt < a.toInt := by
      apply Classical.byContradiction
      intro hn
      have h3 : a ≤ x := by rw [Int64.le_iff_toInt_le]; omega
      have h4 := (lg_cmp_ge x a).mpr h3
      rw [Int32.lt_iff_toInt_lt] at h1
      rw [Int32.le_iff_toInt_le] at h4
      omega
    rw [decide_eq_false (by omega)]
    rfl
  · have h : c.toInt < x.toInt := by
      unfold lg_cmp at h2
      by_cases c1 : x > c
      · have := Int64.lt_iff_toInt_lt.mp c1
        exact this
      · rw [if_neg c1] at h2
        by_cases c2 : x = c
        · rw [if_pos c2] at h2
          exact absurd h2 (by decide)
        · rw [if_neg c2] at h2
          exact absurd h2 (by decide)
    rw [decide_eq_false (by omega)]
    rfl
  · have h : x.toInt ≤ c.toInt := by
      apply Classical.byContradiction
      intro hn
      apply h2
      unfold lg_cmp
      have : x > c := Int64.lt_iff_toInt_lt.mpr (by omega)
      rw [if_pos this]
      decide
    have h0 : a.toInt ≤ x.toInt := by
      apply Classical.byContradiction
      intro hn
      apply h1
      unfold lg_cmp
      have e1 : ¬ x > a := fun q => by
        have := Int64.lt_iff_toInt_lt.mp q
        omega
      have e2 : ¬ x = a := fun q => by
        subst q
        omega
      rw [if_neg e1, if_neg e2]
      decide
    rw [decide_eq_true ⟨h0, h⟩]
    rfl
/-- in(x, 0, n) of an int -/
theorem mv_in0 (x : Int32) {n : Nat} {z c : Int64} (hz : z.toInt = 0) (hc : c.toInt = (n : Int) - 1) : Ev l ad D ia d mX9_in [.long x.toInt64, .long z, .long c] s (some (.int (b1 (inN x n)))) s := by
  have h := mv_in (l := l) (ad := ad) (D := D) (ia := ia) (d := d) (s := s) x.toInt64 z c
  have e : decide (z.toInt ≤ x.toInt64.toInt ∧ x.toInt64.toInt ≤ c.toInt) = inN x n := by
    unfold inN
    rw [i64_toInt, hz, hc]
    congr 1
    apply propext
    omega
  rw [e] at h
  exact h
theorem mv_isBook (hM : (s 20).1 3 = nI nb) (h8 : nb ≤ 8) (x : Int32) : Ev l ad D ia (d + 1) mX9_isBook [.ref (ad 20 0), .int x] s (some (.int (b1 (inN x nb)))) s :=
  eX9_isBook ⟨_, _, mv_in0 x (by decide) (by rw [i64_toInt, hM, pred_toInt (by omega)]), b1_nar _, rfl, rfl⟩
theorem mv_isReader (hM : (s 20).1 4 = nI nr) (h8 : nr ≤ 4) (x : Int32) : Ev l ad D ia (d + 1) mX9_isReader [.ref (ad 20 0), .int x] s (some (.int (b1 (inN x nr)))) s :=
  eX9_isReader ⟨_, _, mv_in0 x (by decide) (by rw [i64_toInt, hM, pred_toInt (by omega)]), b1_nar _, rfl, rfl⟩
theorem mv_isBay (x : Int32) : Ev l ad D ia (d + 1) mX9_isBay [.int x] s (some (.int (b1 (inN x 8)))) s := eX9_isBay ⟨_, _, mv_in0 x (by decide) (by decide), b1_nar _, rfl, rfl⟩
theorem mv_isPart (x : Int32) : Ev l ad D ia (d + 1) mX9_isPart [.int x] s (some (.int (b1 (inN x 2)))) s := eX9_isPart ⟨_, _, mv_in0 x (by decide) (by decide), b1_nar _, rfl, rfl⟩
theorem mv_isFar (x : Int32) : Ev l ad D ia (d + 1) mX9_isFar [.int x] s (some (.int (b1 (inN x 61)))) s := eX9_isFar ⟨_, _, mv_in0 x (by decide) (by decide), b1_nar _, rfl, rfl⟩
theorem ev_hasB (ho : zcls o = 0) (hH : (s o).1 0 = nI nb) (h8 : nb ≤ 8) (x : Int32) : Ev l ad D ia d mX0_hasBook [.ref (ad o 0), .int x] s (some (.int (b1 (inN x nb)))) s := by
  have h := ev_hasBook (l := l) (ad := ad) (D := D) (ia := ia) (d := d) (s := s) ho x
  have e : (if ¬ x < 0 ∧ ¬ (s o).1 0 ≤ x then (1 : Int32) else 0) = b1 (inN x nb) := by
    rw [hH]
    by_cases c : inN x nb = true
    · rw [if_pos ((hasN (by omega)).mpr c), c]
      rfl
    · rw [if_neg (fun q => c ((hasN (by omega)).mp q))]
      rw [Bool.not_eq_true] at c
      rw [c]
      rfl
  rw [e] at h
  exact h
theorem ev_hasR (ho : zcls o = 0) (hH : (s o).1 4 = nI nr) (h8 : nr ≤ 4) (x : Int32) : Ev l ad D ia d mX0_hasReader [.ref (ad o 0), .int x] s (some (.int (b1 (inN x nr)))) s := by
  have h := ev_hasReader (l := l) (ad := ad) (D := D) (ia := ia) (d := d) (s := s) ho x
  have e : (if ¬ x < 0 ∧ ¬ (s o).1 4 ≤ x then (1 : Int32) else 0) = b1 (inN x nr) := by
    rw [hH]
    by_cases c : inN x nr = true
    · rw [if_pos ((hasN (by omega)).mpr c), c]
      rfl
    · rw [if_neg (fun q => c ((hasN (by omega)).mp q))]
      rw [Bool.not_eq_true] at c
      rw [c]
      rfl
  rw [e] at h
  exact h
/-- a house is copied -/
theorem ev_copyFrom (ho : zcls o = 0) (ho1 : zcls o1 = 0) (hne : o1 ≠ o) (hH : HR (s o1) nb nr p f w) (h8 : nb ≤ 8) (h4 : nr ≤ 4) : ∃ v, Ev l ad D ia (d + 1) mX0_copyFrom [.ref (ad o 0), .ref (ad o1 0)] s none (va_up s o v) ∧ HR v nb nr p 0 0 := by
  apply Exists.intro
  apply And.intro
  · refine eX0_copyFrom ho ho1 ?_
    intro s1 e1
    have e1 : s1 = va_up s o (setI (s o) 0 ((s o1).1 0)) := e1
    subst e1
    intro s2 e2
    rw [stR_up, va_up_self, va_up_ne _ _ hne] at e2
    subst e2
    intro s3 e3
    rw [stR_up, va_up_self, va_up_ne _ _ hne] at e3
    subst e3
    intro s4 e4
    rw [stR_up, va_up_self, va_up_ne _ _ hne] at e4
    subst e4
    intro s5 e5
    rw [stI_up, va_up_ne _ _ hne] at e5
    subst e5
    intro s6 e6
    rw [stR_up, va_up_self, va_up_ne _ _ hne] at e6
    subst e6
    intro s7 e7
    rw [stR_up, va_up_self, va_up_ne _ _ hne] at e7
    subst e7
    intro s8 e8
    rw [stR_up, va_up_self, va_up_ne _ _ hne] at e8
    subst e8
    intro s9 e9
    rw [stR_up, va_up_self, va_up_ne _ _ hne] at e9
    subst e9
    intro s10 e10
    rw [stI_up, va_up_ne _ _ hne] at e10
    subst e10
    intro s11 e11
    rw [stI_up, va_up_ne _ _ hne] at e11
    subst e11
    intro s12 e12
    rw [stI_up, va_up_ne _ _ hne] at e12
    subst e12
    intro s13 e13
    rw [stI_up] at e13
    subst e13
    intro s14 e14
    rw [stI_up] at e14
    exact ⟨rfl, e14.symm⟩
  · refine ⟨⟨hH.n0, hH.n4⟩, ?_, ?_, ?_, rfl, rfl⟩
    · intro c hc b hb
      have hb8 : b < 8 := by omega
      rcases (show c = 0 ∨ c = 1 ∨ c = 2 by omega) with rfl | rfl | rfl
      · exact (cpy0 hb8).trans (hH.g1 hb)
      · exact (cpy0 hb8).trans (hH.g2 hb)
      · exact (cpy0 hb8).trans (hH.g3 hb)
    · intro c hc b hb
      have hb4 : b < 4 := by omega
      rcases (show c = 0 ∨ c = 1 ∨ c = 2 ∨ c = 3 by omega) with rfl | rfl | rfl | rfl
      · exact (cpy0 hb4).trans (hH.g5 hb)
      · exact (cpy0 hb4).trans (hH.g6 hb)
      · exact (cpy0 hb4).trans (hH.g7 hb)
      · exact (cpy0 hb4).trans (hH.g8 hb)
    · intro j hj
      rcases (show j = 0 ∨ j = 1 ∨ j = 2 by omega) with rfl | rfl | rfl
      · exact hH.n9
      · exact hH.n10
      · exact hH.n11
theorem ev_beginTrial (hH : HQ (s 1) nb nr p) (h8 : nb ≤ 8) (h4 : nr ≤ 4) : ∃ v, Ev l ad D ia (d + 2) mX8_beginTrial [.ref (ad 0 0)] s none (va_up s 2 v) ∧ HR v nb nr p 0 0 := by
  obtain ⟨f, w, hH⟩ := hH
  obtain ⟨v, hev, hv⟩ := ev_copyFrom (l := l) (ad := ad) (D := D) (ia := ia) (d := d) (s := s) (o := 2) (o1 := 1) rfl rfl (by decide) hH h8 h4
  exact ⟨v, eX8_beginTrial ⟨_, hev, rfl, rfl⟩, hv⟩
/-- the reference begins -/
theorem mv_startsL : ∀ (k i : Nat) (v : OV) (g : Nat → Int32), i + k = 62 → (∀ j, j < i → v.2.2 1 j = v.2.2 0 j) → ∃ v2, ((∀ j, j < 62 → v2.2.2 1 j = v.2.2 0 j) ∧ K0 v v2 ∧ (v2.1 18 = v.1 18 ∧ v2.1 19 = v.1 19 ∧ v2.1 20 = v.1 20)) ∧ ∀ C : ZC, Zok ad D ia C d cX9_starts 2 RX9 none → Z l ad D ia C none (va_up s 20 v2) 2 [(0, .ref (ad 20 0)), (1, .int (nI i))] [] (va_up s 20 v) := by
  intro k
  induction k with
  | zero =>
    intro i v g hk hv
    refine ⟨v, ⟨fun j hj => hv j (by omega), K0.rf v, rfl, rfl, rfl⟩, fun C hC => bX9_starts_2 hC ⟨fun _ => ⟨rfl, rfl⟩, fun h => absurd (nI_le (a := 62) (b := i) (by omega) (by omega)) h⟩⟩
  | succ k ih =>
    intro i v g hk hv
    obtain ⟨v2, ⟨h1, h2, h3⟩, hz⟩ := ih (i + 1) (setA v 1 (upd (v.2.2 1) i (v.2.2 0 i))) g (by omega) (by
      intro j hj
      show va_up v.2.2 1 (upd (v.2.2 1) i (v.2.2 0 i)) 1 j = va_up v.2.2 1 (upd (v.2.2 1) i (v.2.2 0 i)) 0 j
      rw [va_up_self, va_up_ne _ _ (by decide)]
      by_cases e : j = i
      · subst e
        rw [upd_self]
      · rw [upd_ne _ _ e]
        exact hv j (by omega))
    refine ⟨v2, ⟨h1, (K0.A v _).tr h2, h3⟩, fun C hC => bX9_starts_2 hC ⟨fun h => absurd h (nI_ge (a := i) (b := 62) (by omega) (by omega)), fun _ => ⟨vp_in_nI (by omega) (by omega), vp_in_nI (by omega) (by omega), fun s1 e1 => ?_⟩⟩⟩
    rw [va_up_self, nI_clamp (by omega), stA_up] at e1
    subst e1
    rw [nI_1]
    exact hz C hC
theorem mv_starts {sn : Nat} {sa : Nat → Nat → Int32} (hn : (s 20).1 3 = nI nb ∧ (s 20).1 4 = nI nr) (hS : SAT ((s 20).2.2 0) 0 nb nr p sn sa) (h8 : nb ≤ 8) (h4 : nr ≤ 4) : ∃ v, Ev l ad D ia d mX9_starts [.ref (ad 20 0)] s none (va_up s 20 v) ∧ MM v nb nr p (v.1 18) (v.1 19) (v.1 20) ∧ K0 (s 20) v := by
  obtain ⟨v2, ⟨h1, h2, h3⟩, hz⟩ := mv_startsL (l := l) (ad := ad) (D := D) (ia := ia) (d := d) (s := s) 62 0 (s 20) (fun _ => 0) rfl (fun j hj => absurd hj (by omega))
  rw [up_id] at hz
  refine ⟨v2, eX9_starts hz, ⟨⟨by rw [h2.1 3 (by omega) (by omega) (by omega) (by omega)]; exact hn.1, by rw [h2.1 4 (by omega) (by omega) (by omega) (by omega)]; exact hn.2⟩, ⟨?_, ?_, ?_⟩, rfl, rfl, rfl⟩, h2⟩
  · intro c hc b hb
    rw [h1 _ (by omega)]
    have := hS.1.1 c hc b hb
    simpa using this
  · intro c hc r hr
    rw [h1 _ (by omega)]
    have := hS.1.2.1 c hc r hr
    simpa using this
  · intro j hj
    rw [h1 _ (by omega)]
    have := hS.1.2.2 j hj
    simpa using this
theorem mv_starts2 {sn : Nat} {sa : Nat → Nat → Int32} (hn : (s 20).1 3 = nI nb ∧ (s 20).1 4 = nI nr) (hS : SAT ((s 20).2.2 0) 0 nb nr p sn sa) (h8 : nb ≤ 8) (h4 : nr ≤ 4) : ∃ v, Ev l ad D ia d mX9_starts [.ref (ad 20 0)] s none (va_up s 20 v) ∧ MM v nb nr p (v.1 18) (v.1 19) (v.1 20) ∧ K0 (s 20) v ∧ ∀ j, j < 62 → v.2.2 1 j = (s 20).2.2 0 j := by
  obtain ⟨v2, ⟨h1, h2, h3⟩, hz⟩ := mv_startsL (l := l) (ad := ad) (D := D) (ia := ia) (d := d) (s := s) 62 0 (s 20) (fun _ => 0) rfl (fun j hj => absurd hj (by omega))
  rw [up_id] at hz
  refine ⟨v2, eX9_starts hz, ⟨⟨by rw [h2.1 3 (by omega) (by omega) (by omega) (by omega)]; exact hn.1, by rw [h2.1 4 (by omega) (by omega) (by omega) (by omega)]; exact hn.2⟩, ⟨?_, ?_, ?_⟩, rfl, rfl, rfl⟩, h2, h1⟩
  · intro c hc b hb
    rw [h1 _ (by omega)]
    have := hS.1.1 c hc b hb
    simpa using this
  · intro c hc r hr
    rw [h1 _ (by omega)]
    have := hS.1.2.1 c hc r hr
    simpa using this
  · intro j hj
    rw [h1 _ (by omega)]
    have := hS.1.2.2 j hj
    simpa using this
end RE
