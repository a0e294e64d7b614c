/-! DAYS ON WHICH THE STEPS RUN, pure -/
theorem sb0 (a b : Int32) : a - a = b - b := by grind
theorem sbk (a b c d e : Int32) (h : a - (b + e) = c - (d + e)) : a - b = c - d := by grind
theorem sbt (x a b y c d : Int32) (h : a - b = c - d) (h2 : x - a = y - c) : x - b = y - d := by grind
theorem fet_sim {p q : PS} (h : p.1 = q.1) (r b : Nat) (x : Int32) : (pr (fet p r b) 4 r x).1 = (pr (fet q r b) 4 r x).1 := by
  unfold fet pr pz
  simp only [h]
theorem gd_sim (r : Nat) : ∀ (n : Nat) (p q : PS) (z f w f2 w2 : Int32), p.1 = q.1 → (gd n p r z f w).1.1 = (gd n q r z f2 w2).1.1 ∧ (p.2 0 = q.2 0 → (gd n p r z f w).1.2 0 = (gd n q r z f2 w2).1.2 0 ∧ (gd n p r z f w).1.2 1 - p.2 1 = (gd n q r z f2 w2).1.2 1 - q.2 1) ∧ (¬ (go n (p.1 1) (p.1 2) (p.1 3 r) (p.1 5 r) (p.1 4 r) (p.1 6 r) z).2.2.1 = 0 → (gd n p r z f w).1.2 0 = (gd n q r z f2 w2).1.2 0) := by
  intro n
  induction n with
  | zero => exact fun p q z f w f2 w2 h => ⟨h, fun h => ⟨h, sb0 _ _⟩, fun h => absurd rfl h⟩
  | succ n ih =>
    intro p q z f w f2 w2 h
    by_cases c1 : p.1 4 r = -4
    · have c1q : q.1 4 r = -4 := by rw [← h]; exact c1
      rw [gd_a (p := p) c1, gd_a (p := q) c1q, go_a c1]
      exact ⟨h, fun h => ⟨h, sb0 _ _⟩, fun h => absurd rfl h⟩
    · have c1q : ¬ q.1 4 r = -4 := by rw [← h]; exact c1
      have hq : hadq q r (bk (q.1 4 r)) = hadq p r (bk (p.1 4 r)) := by
        unfold hadq
        rw [h]
      by_cases c2 : hadq p r (bk (p.1 4 r)) = 0
      · have c2q : hadq q r (bk (q.1 4 r)) = 0 := by rw [hq]; exact c2
        by_cases c3 : z + dzz (p.1 3 r) (p.1 1 (bk (p.1 4 r))) ≤ p.1 5 r
        · have c3q : z + dzz (q.1 3 r) (q.1 1 (bk (q.1 4 r))) ≤ q.1 5 r := by rw [← h]; exact c3
          rw [gd_d (p := p) c1 c2 c3, gd_d (p := q) c1q c2q c3q, ← h]
          obtain ⟨i1, i2, -⟩ := ih (pr (fet p r (bk (p.1 4 r))) 4 r (p.1 2 (bk (p.1 4 r)))) (pr (fet q r (bk (p.1 4 r))) 4 r (p.1 2 (bk (p.1 4 r)))) (z + dzz (p.1 3 r) (p.1 1 (bk (p.1 4 r)))) (f + 1) w (f2 + 1) w2 (fet_sim h r _ _)
          have e0 : (pr (fet p r (bk (p.1 4 r))) 4 r (p.1 2 (bk (p.1 4 r)))).2 0 = (pr (fet q r (bk (p.1 4 r))) 4 r (p.1 2 (bk (p.1 4 r)))).2 0 := by
            show p.1 0 (bk (p.1 4 r)) = q.1 0 (bk (p.1 4 r))
            rw [h]
          obtain ⟨j1, j2⟩ := i2 e0
          refine ⟨i1, fun hs => ⟨j1, ?_⟩, fun _ => j1⟩
          have ep : (pr (fet p r (bk (p.1 4 r))) 4 r (p.1 2 (bk (p.1 4 r)))).2 1 = p.2 1 + mns p r (bk (p.1 4 r)) := rfl
          have eq : (pr (fet q r (bk (p.1 4 r))) 4 r (p.1 2 (bk (p.1 4 r)))).2 1 = q.2 1 + mns q r (bk (p.1 4 r)) := rfl
          have em : mns p r (bk (p.1 4 r)) = mns q r (bk (p.1 4 r)) := by
            unfold mns
            rw [h, hs]
          rw [ep, eq, em] at j2
          exact sbk _ _ _ _ _ j2
        · have c3q : ¬ z + dzz (q.1 3 r) (q.1 1 (bk (q.1 4 r))) ≤ q.1 5 r := by rw [← h]; exact c3
          rw [gd_c (p := p) c1 c2 c3, gd_c (p := q) c1q c2q c3q, go_c c1 c2 c3]
          exact ⟨h, fun h => ⟨h, sb0 _ _⟩, fun h => absurd rfl h⟩
      · have c2q : ¬ hadq q r (bk (q.1 4 r)) = 0 := by rw [hq]; exact c2
        rw [gd_b (p := p) c1 c2, gd_b (p := q) c1q c2q, go_b c1 c2]
        refine ⟨?_, fun h => ⟨h, sb0 _ _⟩, fun h => absurd rfl h⟩
        unfold pr
        simp only [h]
theorem gd_sim2 {p q : PS} (h : p.1 = q.1) (r : Nat) (f w f2 w2 : Int32) : (gd 9 p r 0 f w).1.1 = (gd 9 q r 0 f2 w2).1.1 ∧ (p.2 0 = q.2 0 → (gd 9 p r 0 f w).1.2 0 = (gd 9 q r 0 f2 w2).1.2 0 ∧ (gd 9 p r 0 f w).1.2 1 - p.2 1 = (gd 9 q r 0 f2 w2).1.2 1 - q.2 1) ∧ (¬ (gr p r).2.2.1 = 0 → (gd 9 p r 0 f w).1.2 0 = (gd 9 q r 0 f2 w2).1.2 0) := gd_sim r 9 p q 0 f w f2 w2 h
theorem dyR_sim : ∀ (k r : Nat) {p q : PS} (f w f2 w2 : Int32), p.1 = q.1 → (dyR k r p f w).1.1 = (dyR k r q f2 w2).1.1 ∧ (p.2 0 = q.2 0 → (dyR k r p f w).1.2 0 = (dyR k r q f2 w2).1.2 0 ∧ (dyR k r p f w).1.2 1 - p.2 1 = (dyR k r q f2 w2).1.2 1 - q.2 1) ∧ (¬ cntS k r p = 0 → (dyR k r p f w).1.2 0 = (dyR k r q f2 w2).1.2 0)
  | 0, r, p, q, f, w, f2, w2, h => ⟨h, fun h2 => ⟨h2, by show p.2 1 - p.2 1 = q.2 1 - q.2 1; grind⟩, fun h2 => absurd rfl h2⟩
  | k + 1, r, p, q, f, w, f2, w2, h => by
    obtain ⟨a1, a2, a3⟩ := gd_sim2 h r f w f2 w2
    obtain ⟨b1, b2, b3⟩ := dyR_sim k (r + 1) (gd 9 p r 0 f w).2.1 (gd 9 p r 0 f w).2.2.1 (gd 9 q r 0 f2 w2).2.1 (gd 9 q r 0 f2 w2).2.2.1 a1
    refine ⟨b1, fun h2 => ?_, fun hc => ?_⟩
    · obtain ⟨c1, c2⟩ := a2 h2
      obtain ⟨d1, d2⟩ := b2 c1
      refine ⟨d1, ?_⟩
      exact sbt _ _ _ _ _ _ c2 d2
    · by_cases e : (gr p r).2.2.1 = 0
      · have e2 : cntS k (r + 1) (gd 9 p r 0 f w).1 = cntS k (r + 1) p := cntS_of k (r + 1) (fun i h1 h2 => gr_gd (by omega))
        have e3 : cntS (k + 1) r p = (gr p r).2.2.1 + cntS k (r + 1) p := rfl
        exact b3 (by omega)
      · exact (b2 (a3 e)).1
theorem day_sim {nr : Nat} {p q : PS} (f w f2 w2 : Int32) (h : p.1 = q.1) : (day nr (p, f, w)).1.1 = (day nr (q, f2, w2)).1.1 ∧ (p.2 0 = q.2 0 → (day nr (p, f, w)).1.2 0 = (day nr (q, f2, w2)).1.2 0 ∧ (day nr (p, f, w)).1.2 1 - p.2 1 = (day nr (q, f2, w2)).1.2 1 - q.2 1) ∧ (¬ cntS nr 0 p = 0 → (day nr (p, f, w)).1.2 0 = (day nr (q, f2, w2)).1.2 0) := dyR_sim nr 0 f w f2 w2 h
/-- the minutes of a day -/
def dm (nr : Nat) (p : PS) : Int32 := (day nr (p, 0, 0)).1.2 1 - p.2 1
def St (nr : Nat) (p : PS) (i : Nat) : PS := (days nr i (p, 0, 0)).1
theorem dm_any {nr : Nat} {p : PS} (f w : Int32) : (day nr (p, f, w)).1.2 1 - p.2 1 = dm nr p := ((day_sim f w 0 0 rfl).2.1 rfl).2
theorem St_succ (nr : Nat) (p : PS) (i : Nat) : St nr p (i + 1) = (day nr (St nr p i, (days nr i (p, 0, 0)).2.1, (days nr i (p, 0, 0)).2.2)).1 := by
  unfold St
  rw [days_succ]
def LR (nr : Nat) (p : PS) (k : Nat) (T : PS) : Prop := T.1 = (St nr p k).1 ∧ (T.2 0 = (St nr p k).2 0 ∨ cntS nr 0 (St nr p k) = 0)
theorem cntS_rows {nr : Nat} {p q : PS} (h : p.1 = q.1) : cntS nr 0 p = cntS nr 0 q := cntS_of nr 0 (fun i _ _ => gr_of (fun j => by rw [h]) (fun j => by rw [h]) (by rw [h]) (by rw [h]) (by rw [h]) (by rw [h]))
theorem LR_still {nr : Nat} {p T : PS} {k : Nat} (f w : Int32) (h : LR nr p k T) : LR nr p (k + 1) (day nr (T, f, w)).1 ∧ (day nr (T, f, w)).1.2 1 - T.2 1 = dm nr (St nr p k) := by
  obtain ⟨h1, h2⟩ := h
  obtain ⟨a1, a2, -⟩ := day_sim (nr := nr) f w (days nr k (p, 0, 0)).2.1 (days nr k (p, 0, 0)).2.2 h1
  unfold LR
  rw [St_succ]
  rcases h2 with h2 | h2
  · obtain ⟨b1, b2⟩ := a2 h2
    exact ⟨⟨a1, Or.inl b1⟩, by rw [b2, dm_any]⟩
  · have c1 : cntS nr 0 T = 0 := by rw [cntS_rows h1]; exact h2
    have d1 := ((day_go nr (T, f, w)).2.2.2 c1).1
    have d2 := ((day_go nr (St nr p k, 0, 0)).2.2.2 h2).1
    refine ⟨⟨a1, Or.inr (still_next (q := (St nr p k, (days nr k (p, 0, 0)).2.1, (days nr k (p, 0, 0)).2.2)) h2)⟩, ?_⟩
    unfold dm
    rw [d1, d2]
    show T.2 1 - T.2 1 = (St nr p k).2 1 - (St nr p k).2 1
    grind
theorem LR_run {nr : Nat} {p T : PS} {k : Nat} (f w : Int32) (h : LR nr p k T) : LR nr p (k + 1) (day nr (pz T 0 7, f, w)).1 ∧ (day nr (pz T 0 7, f, w)).1.2 1 - T.2 1 = dm nr (pz (St nr p k) 0 7) := by
  obtain ⟨h1, -⟩ := h
  have h1z : (pz T 0 7).1 = (pz (St nr p k) 0 7).1 := h1
  obtain ⟨a1, a2, -⟩ := day_sim (nr := nr) f w 0 0 h1z
  obtain ⟨b1, b2⟩ := a2 rfl
  have hz : (pz (St nr p k) 0 7).1 = (St nr p k).1 := rfl
  obtain ⟨c1, -, c3⟩ := day_sim (nr := nr) 0 0 (days nr k (p, 0, 0)).2.1 (days nr k (p, 0, 0)).2.2 hz
  unfold LR
  rw [St_succ]
  refine ⟨⟨a1.trans c1, ?_⟩, b2⟩
  by_cases e : cntS nr 0 (St nr p k) = 0
  · exact Or.inr (still_next (q := (St nr p k, (days nr k (p, 0, 0)).2.1, (days nr k (p, 0, 0)).2.2)) e)
  · exact Or.inl (b1.trans (c3 (by rw [cntS_rows hz]; exact e)))
def aS (nr : Nat) (p : PS) (k : Nat) : Nat := bk (dm nr (St nr p k))
def aR (nr : Nat) (p : PS) (k : Nat) : Nat := bk (dm nr (pz (St nr p k) 0 7))
theorem dm_bnd {nb nr : Nat} {p : PS} (h : PC nb nr p) : ∃ t, t ≤ 1548 ∧ dm nr p = nI t := by
  have h4 := h.1.1.2
  obtain ⟨-, ⟨t, ht, et⟩, -⟩ := day_bnd (q := (p, (0 : Int32), (0 : Int32))) h
  refine ⟨t, Nat.le_trans ht (by omega), ?_⟩
  unfold dm
  rw [et]
  show p.2 1 + nI t - p.2 1 = nI t
  grind
theorem aS_eq {nb nr : Nat} {p : PS} (h : PC nb nr p) (k : Nat) : dm nr (St nr p k) = nI (aS nr p k) ∧ aS nr p k ≤ 1548 := by
  obtain ⟨t, ht, e⟩ := dm_bnd (nb := nb) (nr := nr) (p := St nr p k) (days_bnd k (q := (p, (0 : Int32), (0 : Int32))) h).1
  unfold aS
  rw [e, bk_nI (by omega)]
  exact ⟨rfl, ht⟩
theorem aR_eq {nb nr : Nat} {p : PS} (h : PC nb nr p) (k : Nat) : dm nr (pz (St nr p k) 0 7) = nI (aR nr p k) ∧ aR nr p k ≤ 1548 := by
  have h1 : PC nb nr (St nr p k) := (days_bnd k (q := (p, (0 : Int32), (0 : Int32))) h).1
  obtain ⟨t, ht, e⟩ := dm_bnd (nb := nb) (nr := nr) (p := pz (St nr p k) 0 7) ⟨h1.1, h1.2.1, h1.2.2.1, ⟨7, by omega, by omega, rfl⟩⟩
  unfold aR
  rw [e, bk_nI (by omega)]
  exact ⟨rfl, ht⟩
/-! sums over patterns -/
def mt (a c : Nat → Nat) (pat : Nat) : Nat → Nat
  | 0 => 0
  | k + 1 => mt a c pat k + (if pat.testBit k = true then c k else a k)
def wt (v pat : Nat) : Nat → Nat
  | 0 => 1
  | k + 1 => wt v pat k * (if pat.testBit k = true then v else 10 - v)
def sm (f : Nat → Nat) : Nat → Nat
  | 0 => 0
  | n + 1 => sm f n + f n
theorem sm_congr {f g : Nat → Nat} : ∀ n, (∀ i, i < n → f i = g i) → sm f n = sm g n
  | 0, _ => rfl
  | n + 1, h => by
    show sm f n + f n = sm g n + g n
    rw [sm_congr n (fun i hi => h i (by omega)), h n (by omega)]
theorem sm_le {f g : Nat → Nat} : ∀ n, (∀ i, i < n → f i ≤ g i) → sm f n ≤ sm g n
  | 0, _ => Nat.le_refl 0
  | n + 1, h => Nat.add_le_add (sm_le n (fun i hi => h i (by omega))) (h n (by omega))
theorem sm_split (f : Nat → Nat) (A : Nat) : ∀ B, sm f (A + B) = sm f A + sm (fun j => f (A + j)) B
  | 0 => rfl
  | B + 1 => by
    show sm f (A + B) + f (A + B) = sm f A + (sm (fun j => f (A + j)) B + f (A + B))
    rw [sm_split f A B, Nat.add_assoc]
theorem sm_mul (f : Nat → Nat) (c : Nat) : ∀ n, sm (fun i => f i * c) n = sm f n * c
  | 0 => by show 0 = 0 * c; omega
  | n + 1 => by
    show sm (fun i => f i * c) n + f n * c = (sm f n + f n) * c
    rw [sm_mul f c n, Nat.add_mul]
theorem sm_add (f g : Nat → Nat) : ∀ n, sm (fun i => f i + g i) n = sm f n + sm g n
  | 0 => rfl
  | n + 1 => by
    show sm (fun i => f i + g i) n + (f n + g n) = (sm f n + f n) + (sm g n + g n)
    rw [sm_add f g n]
    omega
theorem tb_hi {n pat i : Nat} (hi : i < n) : (2 ^ n + pat).testBit i = pat.testBit i := Nat.testBit_two_pow_add_gt hi pat
theorem tb_at {n pat : Nat} (h : pat < 2 ^ n) : (2 ^ n + pat).testBit n = true := by
  rw [Nat.testBit_two_pow_add_eq, Nat.testBit_lt_two_pow h]
  rfl
theorem wt_hi (v n pat : Nat) : ∀ k, k ≤ n → wt v (2 ^ n + pat) k = wt v pat k
  | 0, _ => rfl
  | k + 1, h => by
    show wt v (2 ^ n + pat) k * _ = wt v pat k * _
    rw [wt_hi v n pat k (by omega), tb_hi (by omega)]
theorem mt_hi (a c : Nat → Nat) (n pat : Nat) : ∀ k, k ≤ n → mt a c (2 ^ n + pat) k = mt a c pat k
  | 0, _ => rfl
  | k + 1, h => by
    show mt a c (2 ^ n + pat) k + _ = mt a c pat k + _
    rw [mt_hi a c n pat k (by omega), tb_hi (by omega)]
theorem W_sum {v : Nat} (hv : v ≤ 10) : ∀ n, sm (fun pat => wt v pat n) (2 ^ n) = 10 ^ n
  | 0 => rfl
  | n + 1 => by
    have ih := W_sum hv n
    rw [show 2 ^ (n + 1) = 2 ^ n + 2 ^ n by rw [Nat.pow_succ]; omega, sm_split]
    have e1 : sm (fun pat => wt v pat (n + 1)) (2 ^ n) = sm (fun pat => wt v pat n * (10 - v)) (2 ^ n) := sm_congr _ (fun i hi => by
      show wt v i n * _ = _
      rw [Nat.testBit_lt_two_pow hi]
      rfl)
    have e2 : sm (fun j => (fun pat => wt v pat (n + 1)) (2 ^ n + j)) (2 ^ n) = sm (fun pat => wt v pat n * v) (2 ^ n) := sm_congr _ (fun i hi => by
      show wt v (2 ^ n + i) n * _ = _
      rw [wt_hi v n i n (Nat.le_refl _), tb_at hi]
      rfl)
    rw [e1, e2, sm_mul (fun pat => wt v pat n), sm_mul (fun pat => wt v pat n), ih, ← Nat.mul_add, show 10 - v + v = 10 by omega, Nat.pow_succ]
def tm (a c : Nat → Nat) (v : Nat) : Nat → Nat
  | 0 => 0
  | k + 1 => tm a c v k + (v * c k + (10 - v) * a k)
theorem M_sum (a c : Nat → Nat) {v : Nat} (hv : v ≤ 10) : ∀ n, 10 * sm (fun pat => wt v pat n * mt a c pat n) (2 ^ n) = 10 ^ n * tm a c v n
  | 0 => rfl
  | n + 1 => by
    have ih := M_sum a c hv n
    have hW := W_sum hv n
    rw [show 2 ^ (n + 1) = 2 ^ n + 2 ^ n by rw [Nat.pow_succ]; omega, sm_split]
    have e1 : sm (fun pat => wt v pat (n + 1) * mt a c pat (n + 1)) (2 ^ n) = sm (fun pat => wt v pat n * mt a c pat n * (10 - v) + wt v pat n * ((10 - v) * a n)) (2 ^ n) := sm_congr _ (fun i hi => by
      show wt v i n * _ * (mt a c i n + _) = _
      rw [Nat.testBit_lt_two_pow hi]
      show wt v i n * (10 - v) * (mt a c i n + a n) = _
      rw [Nat.mul_add, Nat.mul_right_comm, Nat.mul_assoc (wt v i n) (10 - v) (a n)])
    have e2 : sm (fun j => (fun pat => wt v pat (n + 1) * mt a c pat (n + 1)) (2 ^ n + j)) (2 ^ n) = sm (fun pat => wt v pat n * mt a c pat n * v + wt v pat n * (v * c n)) (2 ^ n) := sm_congr _ (fun i hi => by
      show wt v (2 ^ n + i) n * _ * (mt a c (2 ^ n + i) n + _) = _
      rw [wt_hi v n i n (Nat.le_refl _), mt_hi a c n i n (Nat.le_refl _), tb_at hi]
      show wt v i n * v * (mt a c i n + c n) = _
      rw [Nat.mul_add, Nat.mul_right_comm, Nat.mul_assoc (wt v i n) v (c n)])
    rw [e1, e2, sm_add, sm_add, sm_mul (fun pat => wt v pat n * mt a c pat n), sm_mul (fun pat => wt v pat n * mt a c pat n), sm_mul (fun pat => wt v pat n), sm_mul (fun pat => wt v pat n), hW]
    generalize sm (fun pat => wt v pat n * mt a c pat n) (2 ^ n) = S at ih
    have e3 : S * (10 - v) + 10 ^ n * ((10 - v) * a n) + (S * v + 10 ^ n * (v * c n)) = S * 10 + 10 ^ n * (v * c n + (10 - v) * a n) := by
      have : S * 10 = S * (10 - v) + S * v := by rw [← Nat.mul_add, show 10 - v + v = 10 by omega]
      rw [this, Nat.mul_add]
      omega
    rw [e3, Nat.mul_add 10]
    show 10 * (S * 10) + 10 * (10 ^ n * (v * c n + (10 - v) * a n)) = 10 ^ (n + 1) * (tm a c v n + (v * c n + (10 - v) * a n))
    rw [Nat.mul_add (10 ^ (n + 1)), Nat.pow_succ]
    have e4 : 10 * (S * 10) = 10 ^ n * 10 * tm a c v n := by
      rw [← Nat.mul_assoc, ih, Nat.mul_right_comm]
    have e5 : 10 * (10 ^ n * (v * c n + (10 - v) * a n)) = 10 ^ n * 10 * (v * c n + (10 - v) * a n) := by
      rw [← Nat.mul_assoc, Nat.mul_comm 10 (10 ^ n)]
    rw [e4, e5]
/-- fractions in lowest terms -/
theorem low_eq {a b c d : Nat} (hb : 0 < b) (hd : 0 < d) (h : a * d = b * c) : a / Nat.gcd a b = c / Nat.gcd c d ∧ b / Nat.gcd a b = d / Nat.gcd c d := by
  have h1 : a / Nat.gcd a b = (a * d) / Nat.gcd (a * d) (b * d) := by rw [Nat.gcd_mul_right, Nat.mul_div_mul_right _ _ hd]
  have h2 : b / Nat.gcd a b = (b * d) / Nat.gcd (a * d) (b * d) := by rw [Nat.gcd_mul_right, Nat.mul_div_mul_right _ _ hd]
  have h3 : c / Nat.gcd c d = (b * c) / Nat.gcd (b * c) (b * d) := by rw [Nat.gcd_mul_left, Nat.mul_div_mul_left _ _ hb]
  have h4 : d / Nat.gcd c d = (b * d) / Nat.gcd (b * c) (b * d) := by rw [Nat.gcd_mul_left, Nat.mul_div_mul_left _ _ hb]
  rw [h1, h2, h3, h4, h]
  exact ⟨rfl, rfl⟩
theorem mt_bnd {a c : Nat → Nat} (ha : ∀ k, a k ≤ 1548) (hc : ∀ k, c k ≤ 1548) (pat : Nat) : ∀ k, mt a c pat k ≤ 1548 * k
  | 0 => Nat.le_refl 0
  | k + 1 => by
    have := mt_bnd ha hc pat k
    have h1 := ha k
    have h2 := hc k
    show mt a c pat k + (if pat.testBit k = true then c k else a k) ≤ 1548 * (k + 1)
    by_cases e : pat.testBit k = true
    · rw [if_pos e]; omega
    · rw [if_neg e]; omega
theorem tm_bnd {a c : Nat → Nat} (ha : ∀ k, a k ≤ 1548) (hc : ∀ k, c k ≤ 1548) {v : Nat} (hv : v ≤ 10) : ∀ k, tm a c v k ≤ 15480 * k
  | 0 => Nat.le_refl 0
  | k + 1 => by
    have := tm_bnd ha hc hv k
    have h1 := Nat.mul_le_mul_left v (hc k)
    have h2 := Nat.mul_le_mul_left (10 - v) (ha k)
    show tm a c v k + (v * c k + (10 - v) * a k) ≤ 15480 * (k + 1)
    omega
theorem bt_tb {pat i : Nat} (h : i < 32) : bt (nI pat) i = pat.testBit i := by
  show (BitVec.ofNat 32 pat).getLsbD i = _
  rw [BitVec.getLsbD_ofNat]
  simp [h]
