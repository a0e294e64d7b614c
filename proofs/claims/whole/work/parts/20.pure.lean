/-! THE PURE LIBRARY: p.1 c i: rows (0 bay, 1 height, 2 leads by book; 3 kind, 4 wants, 5 bears, 6 had by reader); p.2: 0 steps, 1 clock, 2 day -/
abbrev PS : Type := (Nat → Nat → Int32) × (Nat → Int32)
def pr (p : PS) (c i : Nat) (x : Int32) : PS := (va_up p.1 c (va_up (p.1 c) i x), p.2)
def pz (p : PS) (j : Nat) (x : Int32) : PS := (p.1, va_up p.2 j x)
def dzz (k h : Int32) : Int32 := if k = 1 then h + mmax 0 (h - 5) else if k = 2 then 2 * h else if k = 3 then (h + mmax 0 (h - 5)) / 3 else h
def clm (k h : Int32) : Int32 := if k = 1 then 2 * h else if k = 2 then (h + 1) / 2 else if k = 3 then 2 * h / 2 + 1 else h
def mns (p : PS) (r b : Nat) : Int32 := mabs (p.1 0 b - p.2 0) + 2 * clm (p.1 3 r) (p.1 1 b)
def hadq (p : PS) (r b : Nat) : Int32 := (p.1 6 r >>> (nI b &&& 31)) &&& 1
def bk (x : Int32) : Nat := x.toNatClampNeg
def fet (p : PS) (r b : Nat) : PS := pr (pz (pz p 1 (p.2 1 + mns p r b)) 0 (p.1 0 b)) 6 r (p.1 6 r ||| (1 <<< (nI b &&& 31)))
/-- a reader's part of a day, n turns at most: the library, fetched, vertigos, the book of vertigo -/
def gd : Nat → PS → Nat → Int32 → Int32 → Int32 → PS × Int32 × Int32 × Int32
  | 0, p, _, _, f, w => (p, f, w, -4)
  | n + 1, p, r, z, f, w =>
    if p.1 4 r = -4 then (p, f, w, -4)
    else if hadq p r (bk (p.1 4 r)) = 0 then
      (if z + dzz (p.1 3 r) (p.1 1 (bk (p.1 4 r))) ≤ p.1 5 r then gd n (pr (fet p r (bk (p.1 4 r))) 4 r (p.1 2 (bk (p.1 4 r)))) r (z + dzz (p.1 3 r) (p.1 1 (bk (p.1 4 r)))) (f + 1) w
      else (p, f, w + 1, p.1 4 r))
    else (pr p 4 r (-4), f, w, -4)
/-- the readers from r on, k of them -/
def dyR : Nat → Nat → PS → Int32 → Int32 → PS × Int32 × Int32
  | 0, _, p, f, w => (p, f, w)
  | k + 1, r, p, f, w => dyR k (r + 1) (gd 9 p r 0 f w).1 (gd 9 p r 0 f w).2.1 (gd 9 p r 0 f w).2.2.1
def day (nr : Nat) (q : PS × Int32 × Int32) : PS × Int32 × Int32 := (pz (dyR nr 0 q.1 q.2.1 q.2.2).1 2 ((dyR nr 0 q.1 q.2.1 q.2.2).1.2 2 + 1), (dyR nr 0 q.1 q.2.1 q.2.2).2)
def days (nr : Nat) : Nat → PS × Int32 × Int32 → PS × Int32 × Int32
  | 0, q => q
  | n + 1, q => days nr n (day nr q)
def okB (nb : Nat) (x : Int32) : Prop := x = -4 ∨ ∃ b, b < nb ∧ x = nI b
/-- what is always so of a library -/
def PI (nb nr : Nat) (p : PS) : Prop := (nb ≤ 8 ∧ nr ≤ 4) ∧ (∀ b, b < nb → okB nb (p.1 2 b)) ∧ (∀ r, r < nr → okB nb (p.1 4 r)) ∧ (∀ b, b < nb → ∃ h, h ≤ 9 ∧ p.1 1 b = nI h)
theorem okB_bk {nb : Nat} {x : Int32} (h : okB nb x) (hn : ¬ x = -4) (h8 : nb ≤ 8) : bk x < nb ∧ x = nI (bk x) := by
  rcases h with h | ⟨b, hb, rfl⟩
  · exact absurd h hn
  · have e : bk (nI b) = b := nI_clamp (by omega)
    rw [e]
    exact ⟨hb, rfl⟩
theorem nI_n4 {b : Nat} (h : b < 2 ^ 31) : ¬ nI b = -4 := fun e => by
  have h1 := nI_toInt h
  rw [e] at h1
  have h2 : (-4 : Int32).toInt = -4 := by decide
  omega
/-- a house of the class holds a library -/
def HR (v : OV) (nb nr : Nat) (p : PS) (f w : Int32) : Prop := (v.1 0 = nI nb ∧ v.1 4 = nI nr) ∧ (∀ c, c < 3 → ∀ b, b < nb → v.2.2 (c + 1) b = p.1 c b) ∧ (∀ c, c < 4 → ∀ r, r < nr → v.2.2 (c + 5) r = p.1 (c + 3) r) ∧ (∀ j, j < 3 → v.1 (j + 9) = p.2 j) ∧ v.1 12 = f ∧ v.1 13 = w
theorem HR.rw {v : OV} {nb nr : Nat} {p : PS} {f w : Int32} (h : HR v nb nr p f w) {c r : Nat} (hc : c < 4) (x : Int32) : HR (setA v (c + 5) (upd (v.2.2 (c + 5)) r x)) nb nr (pr p (c + 3) r x) f w := by
  obtain ⟨h1, h2, h3, h4, h5, h6⟩ := h
  refine ⟨h1, ?_, ?_, h4, h5, h6⟩
  · intro c2 hc2 b hb
    show va_up v.2.2 (c + 5) _ (c2 + 1) b = va_up p.1 (c + 3) _ c2 b
    rw [va_up_ne _ _ (by omega), va_up_ne _ _ (by omega)]
    exact h2 c2 hc2 b hb
  · intro c2 hc2 r2 hr2
    show va_up v.2.2 (c + 5) _ (c2 + 5) r2 = va_up p.1 (c + 3) _ (c2 + 3) r2
    by_cases e : c2 = c
    · subst e
      rw [va_up_self, va_up_self]
      unfold upd va_up
      by_cases e2 : r2 = r
      · simp [e2]
      · simp [e2, h3 c2 hc2 r2 hr2]
    · rw [va_up_ne _ _ (by omega), va_up_ne _ _ (by omega)]
      exact h3 c2 hc2 r2 hr2
theorem HR.bw {v : OV} {nb nr : Nat} {p : PS} {f w : Int32} (h : HR v nb nr p f w) {c b : Nat} (hc : c < 3) (x : Int32) : HR (setA v (c + 1) (upd (v.2.2 (c + 1)) b x)) nb nr (pr p c b x) f w := by
  obtain ⟨h1, h2, h3, h4, h5, h6⟩ := h
  refine ⟨h1, ?_, ?_, h4, h5, h6⟩
  · intro c2 hc2 b2 hb2
    show va_up v.2.2 (c + 1) _ (c2 + 1) b2 = va_up p.1 c _ c2 b2
    by_cases e : c2 = c
    · subst e
      rw [va_up_self, va_up_self]
      unfold upd va_up
      by_cases e2 : b2 = b
      · simp [e2]
      · simp [e2, h2 c2 hc2 b2 hb2]
    · rw [va_up_ne _ _ (by omega), va_up_ne _ _ (by omega)]
      exact h2 c2 hc2 b2 hb2
  · intro c2 hc2 r2 hr2
    show va_up v.2.2 (c + 1) _ (c2 + 5) r2 = va_up p.1 c _ (c2 + 3) r2
    rw [va_up_ne _ _ (by omega), va_up_ne _ _ (by omega)]
    exact h3 c2 hc2 r2 hr2
theorem HR.num {v : OV} {nb nr : Nat} {p : PS} {f w : Int32} (h : HR v nb nr p f w) {j : Nat} (hj : j < 3) (x : Int32) : HR (setI v (j + 9) x) nb nr (pz p j x) f w := by
  obtain ⟨h1, h2, h3, h4, h5, h6⟩ := h
  refine ⟨⟨?_, ?_⟩, h2, h3, ?_, ?_, ?_⟩
  · show va_up v.1 (j + 9) x 0 = nI nb
    rw [va_up_ne _ _ (by omega)]
    exact h1.1
  · show va_up v.1 (j + 9) x 4 = nI nr
    rw [va_up_ne _ _ (by omega)]
    exact h1.2
  · intro j2 hj2
    show va_up v.1 (j + 9) x (j2 + 9) = va_up p.2 j x j2
    by_cases e : j2 = j
    · subst e
      rw [va_up_self, va_up_self]
    · rw [va_up_ne _ _ (by omega), va_up_ne _ _ (by omega)]
      exact h4 j2 hj2
  · show va_up v.1 (j + 9) x 12 = f
    rw [va_up_ne _ _ (by omega)]
    exact h5
  · show va_up v.1 (j + 9) x 13 = w
    rw [va_up_ne _ _ (by omega)]
    exact h6
theorem HR.fe {v : OV} {nb nr : Nat} {p : PS} {f w : Int32} (h : HR v nb nr p f w) (x : Int32) : HR (setI v 12 x) nb nr p x w := by
  obtain ⟨h1, h2, h3, h4, h5, h6⟩ := h
  refine ⟨h1, h2, h3, ?_, rfl, h6⟩
  intro j hj
  show va_up v.1 12 x (j + 9) = p.2 j
  rw [va_up_ne _ _ (by omega)]
  exact h4 j hj
theorem HR.ve {v : OV} {nb nr : Nat} {p : PS} {f w : Int32} (h : HR v nb nr p f w) (x : Int32) : HR (setI v 13 x) nb nr p f x := by
  obtain ⟨h1, h2, h3, h4, h5, h6⟩ := h
  refine ⟨h1, h2, h3, ?_, h5, rfl⟩
  intro j hj
  show va_up v.1 13 x (j + 9) = p.2 j
  rw [va_up_ne _ _ (by omega)]
  exact h4 j hj
theorem HR.g1 {v : OV} {nb nr : Nat} {p : PS} {f w : Int32} (h : HR v nb nr p f w) {b : Nat} (hb : b < nb) : v.2.2 1 b = p.1 0 b := h.2.1 0 (by decide) b hb
theorem HR.w1 {v : OV} {nb nr : Nat} {p : PS} {f w : Int32} (h : HR v nb nr p f w) (b : Nat) (x : Int32) : HR (setA v 1 (upd (v.2.2 1) b x)) nb nr (pr p 0 b x) f w := h.bw (c := 0) (by decide) x
theorem HR.g2 {v : OV} {nb nr : Nat} {p : PS} {f w : Int32} (h : HR v nb nr p f w) {b : Nat} (hb : b < nb) : v.2.2 2 b = p.1 1 b := h.2.1 1 (by decide) b hb
theorem HR.w2 {v : OV} {nb nr : Nat} {p : PS} {f w : Int32} (h : HR v nb nr p f w) (b : Nat) (x : Int32) : HR (setA v 2 (upd (v.2.2 2) b x)) nb nr (pr p 1 b x) f w := h.bw (c := 1) (by decide) x
theorem HR.g3 {v : OV} {nb nr : Nat} {p : PS} {f w : Int32} (h : HR v nb nr p f w) {b : Nat} (hb : b < nb) : v.2.2 3 b = p.1 2 b := h.2.1 2 (by decide) b hb
theorem HR.w3 {v : OV} {nb nr : Nat} {p : PS} {f w : Int32} (h : HR v nb nr p f w) (b : Nat) (x : Int32) : HR (setA v 3 (upd (v.2.2 3) b x)) nb nr (pr p 2 b x) f w := h.bw (c := 2) (by decide) x
theorem HR.g5 {v : OV} {nb nr : Nat} {p : PS} {f w : Int32} (h : HR v nb nr p f w) {r : Nat} (hr : r < nr) : v.2.2 5 r = p.1 3 r := h.2.2.1 0 (by decide) r hr
theorem HR.w5 {v : OV} {nb nr : Nat} {p : PS} {f w : Int32} (h : HR v nb nr p f w) (r : Nat) (x : Int32) : HR (setA v 5 (upd (v.2.2 5) r x)) nb nr (pr p 3 r x) f w := h.rw (c := 0) (by decide) x
theorem HR.g6 {v : OV} {nb nr : Nat} {p : PS} {f w : Int32} (h : HR v nb nr p f w) {r : Nat} (hr : r < nr) : v.2.2 6 r = p.1 4 r := h.2.2.1 1 (by decide) r hr
theorem HR.w6 {v : OV} {nb nr : Nat} {p : PS} {f w : Int32} (h : HR v nb nr p f w) (r : Nat) (x : Int32) : HR (setA v 6 (upd (v.2.2 6) r x)) nb nr (pr p 4 r x) f w := h.rw (c := 1) (by decide) x
theorem HR.g7 {v : OV} {nb nr : Nat} {p : PS} {f w : Int32} (h : HR v nb nr p f w) {r : Nat} (hr : r < nr) : v.2.2 7 r = p.1 5 r := h.2.2.1 2 (by decide) r hr
theorem HR.w7 {v : OV} {nb nr : Nat} {p : PS} {f w : Int32} (h : HR v nb nr p f w) (r : Nat) (x : Int32) : HR (setA v 7 (upd (v.2.2 7) r x)) nb nr (pr p 5 r x) f w := h.rw (c := 2) (by decide) x
theorem HR.g8 {v : OV} {nb nr : Nat} {p : PS} {f w : Int32} (h : HR v nb nr p f w) {r : Nat} (hr : r < nr) : v.2.2 8 r = p.1 6 r := h.2.2.1 3 (by decide) r hr
theorem HR.w8 {v : OV} {nb nr : Nat} {p : PS} {f w : Int32} (h : HR v nb nr p f w) (r : Nat) (x : Int32) : HR (setA v 8 (upd (v.2.2 8) r x)) nb nr (pr p 6 r x) f w := h.rw (c := 3) (by decide) x
theorem HR.n9 {v : OV} {nb nr : Nat} {p : PS} {f w : Int32} (h : HR v nb nr p f w) : v.1 9 = p.2 0 := h.2.2.2.1 0 (by decide)
theorem HR.s9 {v : OV} {nb nr : Nat} {p : PS} {f w : Int32} (h : HR v nb nr p f w) (x : Int32) : HR (setI v 9 x) nb nr (pz p 0 x) f w := h.num (j := 0) (by decide) x
theorem HR.n10 {v : OV} {nb nr : Nat} {p : PS} {f w : Int32} (h : HR v nb nr p f w) : v.1 10 = p.2 1 := h.2.2.2.1 1 (by decide)
theorem HR.s10 {v : OV} {nb nr : Nat} {p : PS} {f w : Int32} (h : HR v nb nr p f w) (x : Int32) : HR (setI v 10 x) nb nr (pz p 1 x) f w := h.num (j := 1) (by decide) x
theorem HR.n11 {v : OV} {nb nr : Nat} {p : PS} {f w : Int32} (h : HR v nb nr p f w) : v.1 11 = p.2 2 := h.2.2.2.1 2 (by decide)
theorem HR.s11 {v : OV} {nb nr : Nat} {p : PS} {f w : Int32} (h : HR v nb nr p f w) (x : Int32) : HR (setI v 11 x) nb nr (pz p 2 x) f w := h.num (j := 2) (by decide) x
theorem HR.n0 {v : OV} {nb nr : Nat} {p : PS} {f w : Int32} (h : HR v nb nr p f w) : v.1 0 = nI nb := h.1.1
theorem HR.n4 {v : OV} {nb nr : Nat} {p : PS} {f w : Int32} (h : HR v nb nr p f w) : v.1 4 = nI nr := h.1.2
theorem HR.n12 {v : OV} {nb nr : Nat} {p : PS} {f w : Int32} (h : HR v nb nr p f w) : v.1 12 = f := h.2.2.2.2.1
theorem HR.n13 {v : OV} {nb nr : Nat} {p : PS} {f w : Int32} (h : HR v nb nr p f w) : v.1 13 = w := h.2.2.2.2.2
theorem up_up {α : Type} (s : Nat → α) (o : Nat) (a b : α) : va_up (va_up s o a) o b = va_up s o b := by
  funext j
  unfold va_up
  by_cases h : j = o <;> simp [h]
theorem up_id {α : Type} (s : Nat → α) (o : Nat) : va_up s o (s o) = s := by
  funext j
  unfold va_up
  by_cases h : j = o <;> simp [h]
theorem stI_up (s : ZS) (o k : Nat) (v : OV) (x : Int32) : stI (va_up s o v) o k x = va_up s o (setI v k x) := by unfold stI; rw [va_up_self, up_up]
theorem stA_up (s : ZS) (o k i : Nat) (v : OV) (x : Int32) : stA (va_up s o v) o k i x = va_up s o (setA v k (upd (v.2.2 k) i x)) := by unfold stA; rw [va_up_self, up_up]
theorem stR_up (s : ZS) (o k : Nat) (v : OV) (f : Nat → Int32) : stR (va_up s o v) o k f = va_up s o (setA v k f) := by unfold stR; rw [va_up_self, up_up]
theorem pr_sta {p : PS} {c i c2 i2 : Nat} {x : Int32} (h : c2 ≠ c) : (pr p c i x).1 c2 i2 = p.1 c2 i2 := by
  show va_up p.1 c _ c2 i2 = _
  rw [va_up_ne _ _ h]
theorem pr_self {p : PS} {c i : Nat} {x : Int32} : (pr p c i x).1 c i = x := by
  show va_up p.1 c _ c i = _
  rw [va_up_self, va_up_self]
theorem pr_row {p : PS} {c i i2 : Nat} {x : Int32} (h : i2 ≠ i) : (pr p c i x).1 c i2 = p.1 c i2 := by
  show va_up p.1 c _ c i2 = _
  rw [va_up_self, va_up_ne _ _ h]
theorem fet_row {p : PS} {r b c i : Nat} (h : c ≠ 6) : (fet p r b).1 c i = p.1 c i := by
  unfold fet
  rw [pr_sta h]
  rfl
theorem okB_n4 {nb : Nat} : okB nb (-4) := Or.inl rfl
theorem PI_want {nb nr : Nat} {p : PS} {r : Nat} {x : Int32} (h : PI nb nr p) (hx : okB nb x) : PI nb nr (pr p 4 r x) := by
  obtain ⟨h1, h2, h3, h4⟩ := h
  refine ⟨h1, ?_, ?_, ?_⟩
  · intro b hb
    rw [pr_sta (by decide)]
    exact h2 b hb
  · intro q hq
    by_cases e : q = r
    · subst e
      rw [pr_self]
      exact hx
    · rw [pr_row e]
      exact h3 q hq
  · intro b hb
    rw [pr_sta (by decide)]
    exact h4 b hb
theorem PI_fet {nb nr : Nat} {p : PS} {r b : Nat} (h : PI nb nr p) : PI nb nr (fet p r b) := by
  obtain ⟨h1, h2, h3, h4⟩ := h
  refine ⟨h1, ?_, ?_, ?_⟩
  · intro b hb
    rw [fet_row (by decide)]
    exact h2 b hb
  · intro q hq
    rw [fet_row (by decide)]
    exact h3 q hq
  · intro b hb
    rw [fet_row (by decide)]
    exact h4 b hb
theorem PI_gd {nb nr : Nat} : ∀ (n : Nat) {p : PS} {r : Nat} {z f w : Int32}, PI nb nr p → r < nr → PI nb nr (gd n p r z f w).1
  | 0, p, r, z, f, w, h, hr => h
  | n + 1, p, r, z, f, w, h, hr => by
    unfold gd
    by_cases c1 : p.1 4 r = -4
    · rw [if_pos c1]
      exact h
    · rw [if_neg c1]
      by_cases c2 : hadq p r (bk (p.1 4 r)) = 0
      · rw [if_pos c2]
        by_cases c3 : z + dzz (p.1 3 r) (p.1 1 (bk (p.1 4 r))) ≤ p.1 5 r
        · rw [if_pos c3]
          have hb := (okB_bk (h.2.2.1 r hr) c1 h.1.1).1
          exact PI_gd n (PI_want (PI_fet h) (h.2.1 _ hb)) hr
        · rw [if_neg c3]
          exact h
      · rw [if_neg c2]
        exact PI_want h okB_n4
theorem PI_dyR {nb nr : Nat} : ∀ (k r : Nat) {p : PS} {f w : Int32}, PI nb nr p → r + k ≤ nr → PI nb nr (dyR k r p f w).1
  | 0, r, p, f, w, h, _ => h
  | k + 1, r, p, f, w, h, hr => PI_dyR k (r + 1) (PI_gd 9 h (by omega)) (by omega)
theorem PI_num {nb nr : Nat} {p : PS} {j : Nat} {x : Int32} (h : PI nb nr p) : PI nb nr (pz p j x) := h
theorem PI_day {nb nr : Nat} {q : PS × Int32 × Int32} (h : PI nb nr q.1) : PI nb nr (day nr q).1 := PI_num (PI_dyR nr 0 h (by omega))
theorem PI_days {nb nr : Nat} : ∀ (n : Nat) {q : PS × Int32 × Int32}, PI nb nr q.1 → PI nb nr (days nr n q).1
  | 0, _, h => h
  | n + 1, _, h => PI_days n (PI_day h)
