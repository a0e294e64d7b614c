/-! ONE READER ALONE: wants, had, how many fetched, the book of vertigo -/
def go : Nat → (Nat → Int32) → (Nat → Int32) → Int32 → Int32 → Int32 → Int32 → Int32 → Int32 × Int32 × Nat × Int32
  | 0, _, _, _, _, wt, hd, _ => (wt, hd, 0, -4)
  | n + 1, h, ld, k, br, wt, hd, z =>
    if wt = -4 then (wt, hd, 0, -4)
    else if (hd >>> (nI (bk wt) &&& 31)) &&& 1 = 0 then
      (if z + dzz k (h (bk wt)) ≤ br then ((go n h ld k br (ld (bk wt)) (hd ||| (1 <<< (nI (bk wt) &&& 31))) (z + dzz k (h (bk wt)))).1, (go n h ld k br (ld (bk wt)) (hd ||| (1 <<< (nI (bk wt) &&& 31))) (z + dzz k (h (bk wt)))).2.1, (go n h ld k br (ld (bk wt)) (hd ||| (1 <<< (nI (bk wt) &&& 31))) (z + dzz k (h (bk wt)))).2.2.1 + 1, (go n h ld k br (ld (bk wt)) (hd ||| (1 <<< (nI (bk wt) &&& 31))) (z + dzz k (h (bk wt)))).2.2.2)
      else (wt, hd, 0, wt))
    else (-4, hd, 0, -4)
/-- reader r of a library, a day -/
def gr (p : PS) (r : Nat) : Int32 × Int32 × Nat × Int32 := go 9 (p.1 1) (p.1 2) (p.1 3 r) (p.1 5 r) (p.1 4 r) (p.1 6 r) 0
theorem go_cnt : ∀ (n : Nat) (h ld : Nat → Int32) (k br wt hd z : Int32), (go n h ld k br wt hd z).2.2.1 ≤ n
  | 0, _, _, _, _, _, _, _ => Nat.le_refl 0
  | n + 1, h, ld, k, br, wt, hd, z => by
    unfold go
    by_cases c1 : wt = -4
    · rw [if_pos c1]; exact Nat.zero_le _
    · rw [if_neg c1]
      by_cases c2 : (hd >>> (nI (bk wt) &&& 31)) &&& 1 = 0
      · rw [if_pos c2]
        by_cases c3 : z + dzz k (h (bk wt)) ≤ br
        · rw [if_pos c3]
          exact Nat.succ_le_succ (go_cnt n _ _ _ _ _ _ _)
        · rw [if_neg c3]; exact Nat.zero_le _
      · rw [if_neg c2]; exact Nat.zero_le _
section GO
variable {n : Nat} {h ld : Nat → Int32} {k br wt hd z : Int32} {p : PS} {r : Nat} {f w : Int32}
theorem go_a (c1 : wt = -4) : go (n + 1) h ld k br wt hd z = (wt, hd, 0, -4) := by
  unfold go
  rw [if_pos c1]
theorem go_b (c1 : ¬ wt = -4) (c2 : ¬ (hd >>> (nI (bk wt) &&& 31)) &&& 1 = 0) : go (n + 1) h ld k br wt hd z = (-4, hd, 0, -4) := by
  unfold go
  rw [if_neg c1, if_neg c2]
theorem go_c (c1 : ¬ wt = -4) (c2 : (hd >>> (nI (bk wt) &&& 31)) &&& 1 = 0) (c3 : ¬ z + dzz k (h (bk wt)) ≤ br) : go (n + 1) h ld k br wt hd z = (wt, hd, 0, wt) := by
  unfold go
  rw [if_neg c1, if_pos c2, if_neg c3]
theorem go_d (c1 : ¬ wt = -4) (c2 : (hd >>> (nI (bk wt) &&& 31)) &&& 1 = 0) (c3 : z + dzz k (h (bk wt)) ≤ br) : go (n + 1) h ld k br wt hd z = ((go n h ld k br (ld (bk wt)) (hd ||| (1 <<< (nI (bk wt) &&& 31))) (z + dzz k (h (bk wt)))).1, (go n h ld k br (ld (bk wt)) (hd ||| (1 <<< (nI (bk wt) &&& 31))) (z + dzz k (h (bk wt)))).2.1, (go n h ld k br (ld (bk wt)) (hd ||| (1 <<< (nI (bk wt) &&& 31))) (z + dzz k (h (bk wt)))).2.2.1 + 1, (go n h ld k br (ld (bk wt)) (hd ||| (1 <<< (nI (bk wt) &&& 31))) (z + dzz k (h (bk wt)))).2.2.2) := by
  rw [go, if_neg c1, if_pos c2, if_pos c3]
theorem gd_a (c1 : p.1 4 r = -4) : gd (n + 1) p r z f w = (p, f, w, -4) := by
  unfold gd
  rw [if_pos c1]
theorem gd_b (c1 : ¬ p.1 4 r = -4) (c2 : ¬ hadq p r (bk (p.1 4 r)) = 0) : gd (n + 1) p r z f w = (pr p 4 r (-4), f, w, -4) := by
  unfold gd
  rw [if_neg c1, if_neg c2]
theorem gd_c (c1 : ¬ p.1 4 r = -4) (c2 : hadq p r (bk (p.1 4 r)) = 0) (c3 : ¬ z + dzz (p.1 3 r) (p.1 1 (bk (p.1 4 r))) ≤ p.1 5 r) : gd (n + 1) p r z f w = (p, f, w + 1, p.1 4 r) := by
  unfold gd
  rw [if_neg c1, if_pos c2, if_neg c3]
theorem gd_d (c1 : ¬ p.1 4 r = -4) (c2 : hadq p r (bk (p.1 4 r)) = 0) (c3 : z + dzz (p.1 3 r) (p.1 1 (bk (p.1 4 r))) ≤ p.1 5 r) : gd (n + 1) p r z f w = gd n (pr (fet p r (bk (p.1 4 r))) 4 r (p.1 2 (bk (p.1 4 r)))) r (z + dzz (p.1 3 r) (p.1 1 (bk (p.1 4 r)))) (f + 1) w := by
  rw [gd, if_neg c1, if_pos c2, if_pos c3]
end GO
/-- a day without a fetching: nothing comes of it the next day either -/
theorem go_fix {n m : Nat} {h ld : Nat → Int32} {k br wt hd : Int32} (hc : (go (n + 1) h ld k br wt hd 0).2.2.1 = 0) : (go (n + 1) h ld k br wt hd 0).2.1 = hd ∧ (go (m + 1) h ld k br (go (n + 1) h ld k br wt hd 0).1 hd 0).1 = (go (n + 1) h ld k br wt hd 0).1 ∧ (go (m + 1) h ld k br (go (n + 1) h ld k br wt hd 0).1 hd 0).2.1 = hd ∧ (go (m + 1) h ld k br (go (n + 1) h ld k br wt hd 0).1 hd 0).2.2.1 = 0 ∧ (¬ (go (n + 1) h ld k br wt hd 0).2.2.2 = -4 → (go (n + 1) h ld k br wt hd 0).1 = wt ∧ ¬ wt = -4) := by
  by_cases c1 : wt = -4
  · rw [go_a (n := n) c1]
    show _ ∧ (go (m + 1) h ld k br wt hd 0).1 = wt ∧ (go (m + 1) h ld k br wt hd 0).2.1 = hd ∧ (go (m + 1) h ld k br wt hd 0).2.2.1 = 0 ∧ _
    rw [go_a (n := m) c1]
    exact ⟨rfl, rfl, rfl, rfl, fun q => absurd rfl q⟩
  · by_cases c2 : (hd >>> (nI (bk wt) &&& 31)) &&& 1 = 0
    · by_cases c3 : (0 : Int32) + dzz k (h (bk wt)) ≤ br
      · rw [go_d c1 c2 c3] at hc
        exact absurd hc (Nat.succ_ne_zero _)
      · rw [go_c (n := n) c1 c2 c3]
        show _ ∧ (go (m + 1) h ld k br wt hd 0).1 = wt ∧ (go (m + 1) h ld k br wt hd 0).2.1 = hd ∧ (go (m + 1) h ld k br wt hd 0).2.2.1 = 0 ∧ _
        rw [go_c (n := m) c1 c2 c3]
        exact ⟨rfl, rfl, rfl, rfl, fun _ => ⟨rfl, c1⟩⟩
    · rw [go_b (n := n) c1 c2]
      show _ ∧ (go (m + 1) h ld k br (-4) hd 0).1 = -4 ∧ (go (m + 1) h ld k br (-4) hd 0).2.1 = hd ∧ (go (m + 1) h ld k br (-4) hd 0).2.2.1 = 0 ∧ _
      rw [go_a (n := m) rfl]
      exact ⟨rfl, rfl, rfl, rfl, fun q => absurd rfl q⟩
theorem pr6 {p : PS} {r b : Nat} {x : Int32} : (pr (fet p r b) 4 r x).1 6 r = p.1 6 r ||| (1 <<< (nI b &&& 31)) := by
  rw [pr_sta (by decide)]
  unfold fet
  rw [pr_self]
theorem pr_st2 {p : PS} {r b c i : Nat} {x : Int32} (h4 : c ≠ 4) (h6 : c ≠ 6) : (pr (fet p r b) 4 r x).1 c i = p.1 c i := by
  rw [pr_sta h4, fet_row h6]
theorem gd_go : ∀ (n : Nat) (p : PS) (r : Nat) (z f w : Int32), (gd n p r z f w).1.1 4 r = (go n (p.1 1) (p.1 2) (p.1 3 r) (p.1 5 r) (p.1 4 r) (p.1 6 r) z).1 ∧ (gd n p r z f w).1.1 6 r = (go n (p.1 1) (p.1 2) (p.1 3 r) (p.1 5 r) (p.1 4 r) (p.1 6 r) z).2.1 ∧ (gd n p r z f w).2.1 = f + nI (go n (p.1 1) (p.1 2) (p.1 3 r) (p.1 5 r) (p.1 4 r) (p.1 6 r) z).2.2.1 ∧ (gd n p r z f w).2.2.2 = (go n (p.1 1) (p.1 2) (p.1 3 r) (p.1 5 r) (p.1 4 r) (p.1 6 r) z).2.2.2 ∧ ((go n (p.1 1) (p.1 2) (p.1 3 r) (p.1 5 r) (p.1 4 r) (p.1 6 r) z).2.2.1 = 0 → (gd n p r z f w).1.2 = p.2)
  | 0, p, r, z, f, w => ⟨rfl, rfl, by rw [show (go 0 (p.1 1) (p.1 2) (p.1 3 r) (p.1 5 r) (p.1 4 r) (p.1 6 r) z).2.2.1 = 0 from rfl, nI_0, Int32.add_zero]; rfl, rfl, fun _ => rfl⟩
  | n + 1, p, r, z, f, w => by
    by_cases c1 : p.1 4 r = -4
    · rw [gd_a c1, go_a c1]
      exact ⟨rfl, rfl, by show f = f + nI 0; rw [nI_0, Int32.add_zero], rfl, fun _ => rfl⟩
    · have hq : hadq p r (bk (p.1 4 r)) = (p.1 6 r >>> (nI (bk (p.1 4 r)) &&& 31)) &&& 1 := rfl
      by_cases c2 : hadq p r (bk (p.1 4 r)) = 0
      · have c2b := c2
        rw [hq] at c2b
        by_cases c3 : z + dzz (p.1 3 r) (p.1 1 (bk (p.1 4 r))) ≤ p.1 5 r
        · rw [gd_d c1 c2 c3, go_d c1 c2b c3]
          have ih := gd_go n (pr (fet p r (bk (p.1 4 r))) 4 r (p.1 2 (bk (p.1 4 r)))) r (z + dzz (p.1 3 r) (p.1 1 (bk (p.1 4 r)))) (f + 1) w
          have e1 : (pr (fet p r (bk (p.1 4 r))) 4 r (p.1 2 (bk (p.1 4 r)))).1 1 = p.1 1 := funext fun i => pr_st2 (by decide) (by decide)
          have e2 : (pr (fet p r (bk (p.1 4 r))) 4 r (p.1 2 (bk (p.1 4 r)))).1 2 = p.1 2 := funext fun i => pr_st2 (by decide) (by decide)
          rw [e1, e2, pr_st2 (c := 3) (by decide) (by decide), pr_st2 (c := 5) (by decide) (by decide), pr_self, pr6] at ih
          refine ⟨ih.1, ih.2.1, ?_, ih.2.2.2.1, fun h => absurd h (Nat.succ_ne_zero _)⟩
          rw [ih.2.2.1]
          show f + nI 1 + nI _ = _
          rw [nI_sum, Nat.add_comm]
        · rw [gd_c c1 c2 c3, go_c c1 c2b c3]
          exact ⟨rfl, rfl, by show f = f + nI 0; rw [nI_0, Int32.add_zero], rfl, fun _ => rfl⟩
      · have c2b := c2
        rw [hq] at c2b
        rw [gd_b c1 c2, go_b c1 c2b]
        exact ⟨pr_self, pr_sta (by decide), by show f = f + nI 0; rw [nI_0, Int32.add_zero], rfl, fun _ => rfl⟩
/-- what a reader's day leaves of the others, and of what stands -/
theorem gd_fr : ∀ (n : Nat) (p : PS) (r : Nat) (z f w : Int32) (c i : Nat), (c ≠ 4 ∧ c ≠ 6) ∨ i ≠ r → (gd n p r z f w).1.1 c i = p.1 c i
  | 0, p, r, z, f, w, c, i, _ => rfl
  | n + 1, p, r, z, f, w, c, i, h => by
    have key : ∀ x, (pr p 4 r x).1 c i = p.1 c i := fun x => by
      by_cases e : c = 4
      · subst e
        rw [pr_row (by omega)]
      · rw [pr_sta e]
    have key2 : ∀ b x, (pr (fet p r b) 4 r x).1 c i = p.1 c i := fun b x => by
      by_cases e : c = 4
      · subst e
        rw [pr_row (by omega), fet_row (by decide)]
      · rw [pr_sta e]
        by_cases e6 : c = 6
        · subst e6
          unfold fet
          rw [pr_row (by omega)]
          rfl
        · rw [fet_row e6]
    unfold gd
    by_cases c1 : p.1 4 r = -4
    · rw [if_pos c1]
    · rw [if_neg c1]
      by_cases c2 : hadq p r (bk (p.1 4 r)) = 0
      · rw [if_pos c2]
        by_cases c3 : z + dzz (p.1 3 r) (p.1 1 (bk (p.1 4 r))) ≤ p.1 5 r
        · rw [if_pos c3, gd_fr n _ r _ _ _ c i h]
          exact key2 _ _
        · rw [if_neg c3]
      · rw [if_neg c2]
        exact key _
theorem gr_of {p q : PS} {r : Nat} (h1 : ∀ i, p.1 1 i = q.1 1 i) (h2 : ∀ i, p.1 2 i = q.1 2 i) (h3 : p.1 3 r = q.1 3 r) (h5 : p.1 5 r = q.1 5 r) (h4 : p.1 4 r = q.1 4 r) (h6 : p.1 6 r = q.1 6 r) : gr p r = gr q r := by
  unfold gr
  rw [funext h1, funext h2, h3, h4, h5, h6]
def cntS : Nat → Nat → PS → Nat
  | 0, _, _ => 0
  | k + 1, r, p => (gr p r).2.2.1 + cntS k (r + 1) p
theorem cntS_of {p q : PS} : ∀ (k r : Nat), (∀ i, r ≤ i → i < r + k → gr p i = gr q i) → cntS k r p = cntS k r q
  | 0, _, _ => rfl
  | k + 1, r, h => by
    show (gr p r).2.2.1 + cntS k (r + 1) p = (gr q r).2.2.1 + cntS k (r + 1) q
    rw [h r (by omega) (by omega), cntS_of k (r + 1) (fun i a b => h i (by omega) (by omega))]
theorem gr_gd {p : PS} {r i : Nat} {f w : Int32} (h : i ≠ r) : gr (gd 9 p r 0 f w).1 i = gr p i :=
  gr_of (fun j => gd_fr 9 p r 0 f w 1 j (Or.inl (by decide))) (fun j => gd_fr 9 p r 0 f w 2 j (Or.inl (by decide))) (gd_fr 9 p r 0 f w 3 i (Or.inr h)) (gd_fr 9 p r 0 f w 5 i (Or.inr h)) (gd_fr 9 p r 0 f w 4 i (Or.inr h)) (gd_fr 9 p r 0 f w 6 i (Or.inr h))
theorem dyR_go : ∀ (k r : Nat) (p : PS) (f w : Int32), (∀ i, r ≤ i → i < r + k → (dyR k r p f w).1.1 4 i = (gr p i).1 ∧ (dyR k r p f w).1.1 6 i = (gr p i).2.1) ∧ (∀ c i, (c ≠ 4 ∧ c ≠ 6) ∨ i < r ∨ r + k ≤ i → (dyR k r p f w).1.1 c i = p.1 c i) ∧ (dyR k r p f w).2.1 = f + nI (cntS k r p) ∧ (cntS k r p = 0 → (dyR k r p f w).1.2 = p.2)
  | 0, r, p, f, w => ⟨fun i a b => absurd b (by omega), fun _ _ _ => rfl, by rw [show cntS 0 r p = 0 from rfl, nI_0, Int32.add_zero]; rfl, fun _ => rfl⟩
  | k + 1, r, p, f, w => by
    obtain ⟨a1, a2, a3, a4⟩ := dyR_go k (r + 1) (gd 9 p r 0 f w).1 (gd 9 p r 0 f w).2.1 (gd 9 p r 0 f w).2.2.1
    have g := gd_go 9 p r 0 f w
    have ec : cntS k (r + 1) (gd 9 p r 0 f w).1 = cntS k (r + 1) p := cntS_of k (r + 1) (fun i a b => gr_gd (by omega))
    have e0 : dyR (k + 1) r p f w = dyR k (r + 1) (gd 9 p r 0 f w).1 (gd 9 p r 0 f w).2.1 (gd 9 p r 0 f w).2.2.1 := rfl
    rw [e0]
    refine ⟨fun i a b => ?_, fun c i h => ?_, ?_, fun h => ?_⟩
    · by_cases e : i = r
      · subst e
        rw [a2 4 i (by omega), a2 6 i (by omega)]
        exact ⟨g.1, g.2.1⟩
      · have := a1 i (by omega) (by omega)
        rw [gr_gd e] at this
        exact this
    · rw [a2 c i (by omega), gd_fr 9 p r 0 f w c i (by omega)]
    · rw [a3, ec, g.2.2.1, nI_sum]
      rfl
    · have h : (gr p r).2.2.1 + cntS k (r + 1) p = 0 := h
      rw [a4 (by rw [ec]; omega)]
      exact g.2.2.2.2 (by
        have : (gr p r).2.2.1 = 0 := by omega
        exact this)
theorem day_go (nr : Nat) (q : PS × Int32 × Int32) : (∀ i, i < nr → (day nr q).1.1 4 i = (gr q.1 i).1 ∧ (day nr q).1.1 6 i = (gr q.1 i).2.1) ∧ (∀ c i, (c ≠ 4 ∧ c ≠ 6) ∨ nr ≤ i → (day nr q).1.1 c i = q.1.1 c i) ∧ (day nr q).2.1 = q.2.1 + nI (cntS nr 0 q.1) ∧ (cntS nr 0 q.1 = 0 → (day nr q).1.2 1 = q.1.2 1 ∧ (day nr q).1.2 0 = q.1.2 0) := by
  obtain ⟨a1, a2, a3, a4⟩ := dyR_go nr 0 q.1 q.2.1 q.2.2
  refine ⟨fun i hi => a1 i (by omega) (by omega), fun c i h => a2 c i (by omega), a3, fun h => ?_⟩
  have e := a4 h
  exact ⟨congrFun e 1, congrFun e 0⟩
/-- one reader's days: his wants and what he had -/
def it : Nat → (Nat → Int32) → (Nat → Int32) → Int32 → Int32 → Int32 × Int32 → Int32 × Int32
  | 0, _, _, _, _, q => q
  | n + 1, h, ld, k, br, q => it n h ld k br ((go 9 h ld k br q.1 q.2 0).1, (go 9 h ld k br q.1 q.2 0).2.1)
def itp (n : Nat) (p : PS) (r : Nat) : Int32 × Int32 := it n (p.1 1) (p.1 2) (p.1 3 r) (p.1 5 r) (p.1 4 r, p.1 6 r)
theorem days_it (nr : Nat) {r : Nat} (hr : r < nr) : ∀ (n : Nat) (q : PS × Int32 × Int32), (days nr n q).1.1 4 r = (itp n q.1 r).1 ∧ (days nr n q).1.1 6 r = (itp n q.1 r).2
  | 0, q => ⟨rfl, rfl⟩
  | n + 1, q => by
    have h := days_it nr hr n (day nr q)
    obtain ⟨a1, a2, -, -⟩ := day_go nr q
    have e : itp n (day nr q).1 r = itp (n + 1) q.1 r := by
      unfold itp
      rw [show (day nr q).1.1 1 = q.1.1 1 from funext fun i => a2 1 i (Or.inl (by decide)), show (day nr q).1.1 2 = q.1.1 2 from funext fun i => a2 2 i (Or.inl (by decide)), a2 3 r (Or.inl (by decide)), a2 5 r (Or.inl (by decide)), (a1 r hr).1, (a1 r hr).2]
      rfl
    rw [e] at h
    exact h
/-- who has come to rest stays so -/
def fxd (h ld : Nat → Int32) (k br : Int32) (q : Int32 × Int32) : Prop := (go 9 h ld k br q.1 q.2 0).1 = q.1 ∧ (go 9 h ld k br q.1 q.2 0).2.1 = q.2 ∧ (go 9 h ld k br q.1 q.2 0).2.2.1 = 0
theorem it_fx {h ld : Nat → Int32} {k br : Int32} : ∀ (n : Nat) {q : Int32 × Int32}, fxd h ld k br q → it n h ld k br q = q
  | 0, _, _ => rfl
  | n + 1, q, hf => by
    show it n h ld k br ((go 9 h ld k br q.1 q.2 0).1, (go 9 h ld k br q.1 q.2 0).2.1) = q
    rw [hf.1, hf.2.1]
    exact it_fx n hf
theorem go_fxd {h ld : Nat → Int32} {k br : Int32} {q : Int32 × Int32} (hc : (go 9 h ld k br q.1 q.2 0).2.2.1 = 0) : fxd h ld k br ((go 9 h ld k br q.1 q.2 0).1, (go 9 h ld k br q.1 q.2 0).2.1) := by
  obtain ⟨a, b, c, d, -⟩ := go_fix (n := 8) (m := 8) hc
  show _ ∧ _ ∧ _
  rw [a]
  exact ⟨b, c, d⟩
/-- behind how many days he is done first -/
def tD (h ld : Nat → Int32) (k br : Int32) : Nat → Nat → Int32 × Int32 → Int32
  | 0, j, q => if q.1 = -4 then nI j else -4
  | n + 1, j, q => if q.1 = -4 then nI j else tD h ld k br n (j + 1) ((go 9 h ld k br q.1 q.2 0).1, (go 9 h ld k br q.1 q.2 0).2.1)
theorem tD_fx {h ld : Nat → Int32} {k br : Int32} : ∀ (n j : Nat) {q : Int32 × Int32}, fxd h ld k br q → ¬ q.1 = -4 → tD h ld k br n j q = -4
  | 0, _, _, _, hn => if_neg hn
  | n + 1, j, q, hf, hn => by
    unfold tD
    rw [if_neg hn, hf.1, hf.2.1]
    exact tD_fx n (j + 1) hf hn
theorem n4_fx {h ld : Nat → Int32} {k br hd : Int32} : fxd h ld k br (-4, hd) := ⟨rfl, rfl, rfl⟩
theorem tD_it {h ld : Nat → Int32} {k br : Int32} : ∀ (n j : Nat) (q : Int32 × Int32), n + j < 2 ^ 31 → (¬ tD h ld k br n j q = -4 ↔ (it n h ld k br q).1 = -4)
  | 0, j, q, hb => by
    unfold tD it
    by_cases c : q.1 = -4
    · rw [if_pos c]
      exact ⟨fun _ => c, fun _ => nI_n4 (by omega)⟩
    · rw [if_neg c]
      exact ⟨fun h => absurd rfl h, fun h => absurd h c⟩
  | n + 1, j, q, hb => by
    by_cases c : q.1 = -4
    · have e : it (n + 1) h ld k br q = q := it_fx (n + 1) (by
        obtain ⟨a, b⟩ := q
        have c : a = -4 := c
        subst c
        exact n4_fx)
      unfold tD
      rw [if_pos c, e]
      exact ⟨fun _ => c, fun _ => nI_n4 (by omega)⟩
    · unfold tD it
      rw [if_neg c]
      exact tD_it n (j + 1) _ (by omega)
/-- a still day: the next ones fetch nothing, and take no time -/
theorem still_next {nr : Nat} {q : PS × Int32 × Int32} (hc : cntS nr 0 q.1 = 0) : cntS nr 0 (day nr q).1 = 0 := by
  obtain ⟨a1, a2, -, -⟩ := day_go nr q
  have h0 : ∀ (k r : Nat) (p : PS), cntS k r p = 0 → ∀ i, r ≤ i → i < r + k → (gr p i).2.2.1 = 0 := by
    intro k
    induction k with
    | zero => intro r p _ i a b; omega
    | succ k ih =>
      intro r p h i a b
      have h : (gr p r).2.2.1 + cntS k (r + 1) p = 0 := h
      by_cases e : i = r
      · subst e; omega
      · exact ih (r + 1) p (by omega) i (by omega) (by omega)
  have h1 : ∀ (k r : Nat) (p : PS), (∀ i, r ≤ i → i < r + k → (gr p i).2.2.1 = 0) → cntS k r p = 0 := by
    intro k
    induction k with
    | zero => intro r p _; rfl
    | succ k ih =>
      intro r p h
      show (gr p r).2.2.1 + cntS k (r + 1) p = 0
      rw [h r (by omega) (by omega), ih (r + 1) p (fun i a b => h i (by omega) (by omega))]
  refine h1 nr 0 _ (fun i _ hi => ?_)
  have hz := h0 nr 0 q.1 hc i (by omega) hi
  have hf := (go_fxd (q := (q.1.1 4 i, q.1.1 6 i)) hz).2.2
  unfold gr
  rw [show (day nr q).1.1 1 = q.1.1 1 from funext fun i => a2 1 i (Or.inl (by decide)), show (day nr q).1.1 2 = q.1.1 2 from funext fun i => a2 2 i (Or.inl (by decide)), a2 3 i (Or.inl (by decide)), a2 5 i (Or.inl (by decide)), (a1 i (by omega)).1, (a1 i (by omega)).2]
  exact hf
theorem still_days {nr : Nat} : ∀ (n : Nat) {q : PS × Int32 × Int32}, cntS nr 0 q.1 = 0 → (days nr n q).2.1 = q.2.1 ∧ (days nr n q).1.2 1 = q.1.2 1
  | 0, _, _ => ⟨rfl, rfl⟩
  | n + 1, q, h => by
    obtain ⟨-, -, a3, a4⟩ := day_go nr q
    obtain ⟨b1, b2⟩ := still_days n (still_next h)
    show (days nr n (day nr q)).2.1 = _ ∧ (days nr n (day nr q)).1.2 1 = _
    rw [b1, b2, a3, h, nI_0, Int32.add_zero]
    exact ⟨rfl, (a4 h).1⟩
theorem cntS_le : ∀ (k r : Nat) (p : PS), cntS k r p ≤ 9 * k
  | 0, _, _ => Nat.le_refl 0
  | k + 1, r, p => by
    have h1 : (gr p r).2.2.1 ≤ 9 := go_cnt 9 _ _ _ _ _ _ _
    have h2 := cntS_le k (r + 1) p
    show (gr p r).2.2.1 + cntS k (r + 1) p ≤ _
    omega
