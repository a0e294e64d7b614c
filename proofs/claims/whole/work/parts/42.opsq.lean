theorem up_comm {α : Type} (f : Nat → α) {a b : Nat} (x y : α) (h : a ≠ b) : va_up (va_up f b x) a y = va_up (va_up f a y) b x := by
  funext j
  unfold va_up
  by_cases c : j = a
  · subst c
    simp [h]
  · by_cases c2 : j = b
    · subst c2
      simp [c]
    · simp [c, c2]
theorem pr_pr (p : PS) (c i j : Nat) (x y : Int32) : pr (pr p c i x) c j y = (va_up p.1 c (va_up (va_up (p.1 c) i x) j y), p.2) := by
  unfold pr
  refine Prod.ext ?_ rfl
  show va_up (va_up p.1 c (va_up (p.1 c) i x)) c (va_up (va_up p.1 c (va_up (p.1 c) i x) c) j y) = _
  rw [up_up, va_up_self]
theorem pr_comm (p : PS) (c : Nat) {a b : Nat} (x y : Int32) (h : a ≠ b) : pr (pr p c b x) c a y = pr (pr p c a y) c b x := by
  rw [pr_pr, pr_pr, up_comm _ _ _ h]
/-- two books change their places -/
def sw (p : PS) (a b : Nat) : PS := pr (pr (pr (pr p 0 b (p.1 0 a)) 0 a (p.1 0 b)) 1 b (p.1 1 a)) 1 a (p.1 1 b)
theorem sw_m (p : PS) {a b : Nat} (h : a ≠ b) : pr (pr (pr (pr p 0 a (p.1 0 b)) 0 b (p.1 0 a)) 1 a (p.1 1 b)) 1 b (p.1 1 a) = sw p a b := by
  unfold sw
  rw [pr_comm p 0 (p.1 0 a) (p.1 0 b) h, pr_comm _ 1 (p.1 1 a) (p.1 1 b) h]
theorem PI_0 {nb nr : Nat} {p : PS} {b : Nat} {x : Int32} (h : PI nb nr p) : PI nb nr (pr p 0 b x) := by
  obtain ⟨h1, h2, h3, h4⟩ := h
  exact ⟨h1, fun q hq => by rw [pr_sta (by decide)]; exact h2 q hq, fun q hq => by rw [pr_sta (by decide)]; exact h3 q hq, fun q hq => by rw [pr_sta (by decide)]; exact h4 q hq⟩
theorem PI_sw {nb nr : Nat} {p : PS} {a b : Nat} (h : PI nb nr p) (ha : a < nb) (hb : b < nb) : PI nb nr (sw p a b) := PI_h (PI_h (PI_0 (PI_0 h)) (h.2.2.2 a ha)) (h.2.2.2 b hb)
def fS (p : PS) (nr N a b : Nat) : Int32 := (days nr N (sw p a b, 0, 0)).2.1
def swI (p : PS) (nr N a : Nat) : Nat → Nat → Int32 → Int32 → Int32 × Int32
  | 0, _, fn, ms => (fn, ms)
  | k + 1, b, fn, ms => if fS p nr N a b ≤ ms then swI p nr N a k (b + 1) fn ms else swI p nr N a k (b + 1) (10 * nI a + nI b) (fS p nr N a b)
def swO (p : PS) (nr N : Nat) : Nat → Nat → Int32 → Int32 → Int32 × Int32
  | 0, _, fn, ms => (fn, ms)
  | k + 1, a, fn, ms => swO p nr N k (a + 1) (swI p nr N a k (a + 1) fn ms).1 (swI p nr N a k (a + 1) fn ms).2
def swX (y : Int32) (q : Int32 × Int32) : Int32 := if q.1 = -4 then -4 else if y = 0 then q.1 else q.2
section OQ
variable {l : Launch} {ad : ZA} {D : va_G} {ia : Nat → ClassId} {d nb nr r b o o1 : Nat} {s : ZS} {p : PS} {f m w : Int32}
theorem ev_exchange {o k n i j : Nat} (hz : zis o k 0 n) (hi : i < n) (hj : j < n) (hn : n < 2 ^ 31) (hij : i ≠ j) : Ev l ad D ia (d + 1) mX8_exchange [.ref (ad o (k + 1)), .int (nI i), .int (nI j)] s none (va_up s o (setA (s o) k (upd (upd ((s o).2.2 k) j ((s o).2.2 k i)) i ((s o).2.2 k j)))) := by
  refine eX8_exchange hz ⟨vp_in_nI hi hn, _, _, ev_replace hz hj hn _, vp_in_nI hi hn, fun s1 e1 => ⟨rfl, ?_⟩⟩
  rw [nI_clamp (by omega), stA_up] at e1
  rw [e1]
  congr 1
  unfold setA
  simp only [up_up, va_up_self]
theorem ev_changePlaces (ho : zcls o = 0) {a b : Nat} (hH : HR (s o) nb nr p f w) (hp : PI nb nr p) (ha : a < nb) (hb : b < nb) (hab : a ≠ b) : ∃ v, Ev l ad D ia (d + 2) mX0_changePlaces [.ref (ad o 0), .int (nI a), .int (nI b)] s none (va_up s o v) ∧ HR v nb nr (sw p a b) f w := by
  have h8 := hp.1.1
  have k1 := (hH.w1 b (p.1 0 a)).w1 a (p.1 0 b)
  have k2 := (k1.w2 b (p.1 1 a)).w2 a (p.1 1 b)
  have x1 := ev_exchange (l := l) (ad := ad) (D := D) (ia := ia) (d := d) (s := s) (o := o) (k := 1) (n := 8) (i := a) (j := b) (zis_of ho rfl) (by omega) (by omega) (by decide) hab
  rw [hH.g1 ha, hH.g1 hb] at x1
  have e1 : setA (setA (s o) 1 (upd ((s o).2.2 1) b (p.1 0 a))) 1 (upd ((setA (s o) 1 (upd ((s o).2.2 1) b (p.1 0 a))).2.2 1) a (p.1 0 b)) = setA (s o) 1 (upd (upd ((s o).2.2 1) b (p.1 0 a)) a (p.1 0 b)) := by
    unfold setA
    simp only [up_up, va_up_self]
  rw [e1] at k1 k2
  have x2 := ev_exchange (l := l) (ad := ad) (D := D) (ia := ia) (d := d) (s := va_up s o (setA (s o) 1 (upd (upd ((s o).2.2 1) b (p.1 0 a)) a (p.1 0 b)))) (o := o) (k := 2) (n := 8) (i := a) (j := b) (zis_of ho rfl) (by omega) (by omega) (by decide) hab
  rw [up_up, va_up_self, k1.g2 ha, k1.g2 hb] at x2
  refine ⟨_, eX0_changePlaces ho ⟨_, x1, _, x2, rfl, rfl⟩, ?_⟩
  have e2 : ∀ V : OV, setA (setA V 2 (upd (V.2.2 2) b (p.1 1 a))) 2 (upd ((setA V 2 (upd (V.2.2 2) b (p.1 1 a))).2.2 2) a (p.1 1 b)) = setA V 2 (upd (upd (V.2.2 2) b (p.1 1 a)) a (p.1 1 b)) := by
    intro V
    unfold setA
    simp only [up_up, va_up_self]
  rw [e2] at k2
  have g1 : (pr (pr p 0 b (p.1 0 a)) 0 a (p.1 0 b)).1 1 a = p.1 1 a := by rw [pr_sta (by decide), pr_sta (by decide)]
  have g2 : (pr (pr p 0 b (p.1 0 a)) 0 a (p.1 0 b)).1 1 b = p.1 1 b := by rw [pr_sta (by decide), pr_sta (by decide)]
  rw [g1, g2]
  exact k2
theorem ev_swapL {N : Nat} (hN : N ≤ 60) (y : Int32) (hH1 : HQ (s 1) nb nr p) (hp : PI nb nr p) : ∀ (k a : Nat) (u : OV) (fn ms : Int32), a + k = nb → ∃ u2, ∀ C : ZC, Zok ad D ia C (d + 6) cX8_swap 7 RX8 (some .int) → Z l ad D ia C (some (.int (swX y (swO p nr N k a fn ms)))) (va_up s 2 u2) 48 [(0, .ref (ad 0 0)), (1, .int (nI N)), (2, .int y), (3, .int fn), (4, .int ms), (5, .int (nI a))] [] (va_up s 2 u) := by
  have h8 := hp.1.1
  have h4 := hp.1.2
  have hH1u : ∀ u, (va_up s 2 u 1).1 0 = nI nb := fun u => by
    obtain ⟨f, w, hH⟩ := hH1
    rw [va_up_ne _ _ (by decide)]
    exact hH.n0
  intro k
  induction k with
  | zero =>
    intro a u fn ms ha
    refine ⟨u, fun C hC => bX8_swap_48 hC ⟨fun _ => ⟨fun h => ⟨?_, rfl⟩, fun h => ⟨fun h2 => ⟨?_, rfl⟩, fun h2 => ⟨?_, rfl⟩⟩⟩, fun h => ?_⟩⟩
    · show some (Value.int (if fn = -4 then -4 else if y = 0 then fn else ms)) = _
      rw [if_pos h, h]
    · show some (Value.int (if fn = -4 then -4 else if y = 0 then fn else ms)) = _
      rw [if_neg h, if_neg h2]
    · show some (Value.int (if fn = -4 then -4 else if y = 0 then fn else ms)) = _
      rw [if_neg h, if_pos h2]
    · rw [hH1u] at h
      exact absurd (nI_le (by omega) (by omega)) h
  | succ k ih =>
    intro a u fn ms ha
    have inner : ∀ (j b : Nat) (u : OV) (fn ms : Int32), b + j = nb → a < b → ∃ u2, ∀ C : ZC, Zok ad D ia C (d + 6) cX8_swap 7 RX8 (some .int) → Z l ad D ia C (some (.int (swX y (swO p nr N k (a + 1) (swI p nr N a j b fn ms).1 (swI p nr N a j b fn ms).2)))) (va_up s 2 u2) 66 [(0, .ref (ad 0 0)), (1, .int (nI N)), (2, .int y), (3, .int fn), (4, .int ms), (5, .int (nI a)), (6, .int (nI b))] [] (va_up s 2 u) := by
      intro j
      induction j with
      | zero =>
        intro b u fn ms hb hab
        obtain ⟨u2, hz⟩ := ih (a + 1) u fn ms (by omega)
        refine ⟨u2, fun C hC => bX8_swap_66 hC ⟨fun _ => ?_, fun h => ?_⟩⟩
        · rw [nI_1]
          exact hz C hC
        · rw [hH1u] at h
          exact absurd (nI_le (by omega) (by omega)) h
      | succ j ih2 =>
        intro b u fn ms hb hab
        have hq : HQ (va_up s 2 u 1) nb nr p := by rw [va_up_ne _ _ (by decide)]; exact hH1
        obtain ⟨v1, hb1, hT⟩ := ev_beginTrial (l := l) (ad := ad) (D := D) (ia := ia) (d := d + 3) (s := va_up s 2 u) hq h8 h4
        rw [up_up] at hb1
        have hT1 : HR (va_up s 2 v1 2) nb nr p 0 0 := by rw [va_up_self]; exact hT
        obtain ⟨v2, hb2, hT2⟩ := ev_changePlaces (l := l) (ad := ad) (D := D) (ia := ia) (d := d + 3) (o := 2) (a := a) (b := b) rfl hT1 hp (by omega) (by omega) (by omega)
        rw [up_up] at hb2
        have hT2b : HR (va_up s 2 v2 2) nb nr (sw p a b) 0 0 := by rw [va_up_self]; exact hT2
        obtain ⟨v3, p3, w3, hb3, hT3, -⟩ := ev_tillStill (l := l) (ad := ad) (D := D) (ia := ia) (d := d) (o := 2) (N := N) rfl hN hT2b (PI_sw hp (by omega) (by omega))
        rw [up_up] at hb3
        have ef : (va_up s 2 v3 2).1 12 = fS p nr N a b := by rw [va_up_self, hT3.n12]; rfl
        by_cases c : fS p nr N a b ≤ ms
        · obtain ⟨u2, hz⟩ := ih2 (b + 1) v3 fn ms (by omega) (by omega)
          have e : swI p nr N a (j + 1) b fn ms = swI p nr N a j (b + 1) fn ms := if_pos c
          rw [e]
          refine ⟨u2, fun C hC => bX8_swap_66 hC ⟨fun h => ?_, fun _ => ⟨_, hb1, _, hb2, _, hb3, fun _ => ?_, fun h => ?_⟩⟩⟩
          · rw [hH1u] at h
            exact absurd h (nI_ge (by omega) (by omega))
          · rw [nI_1]
            exact hz C hC
          · rw [ef] at h
            exact absurd c h
        · obtain ⟨u2, hz⟩ := ih2 (b + 1) v3 (10 * nI a + nI b) (fS p nr N a b) (by omega) (by omega)
          have e : swI p nr N a (j + 1) b fn ms = swI p nr N a j (b + 1) (10 * nI a + nI b) (fS p nr N a b) := if_neg c
          rw [e]
          refine ⟨u2, fun C hC => bX8_swap_66 hC ⟨fun h => ?_, fun _ => ⟨_, hb1, _, hb2, _, hb3, fun h => ?_, fun _ => ?_⟩⟩⟩
          · rw [hH1u] at h
            exact absurd h (nI_ge (by omega) (by omega))
          · rw [ef] at h
            exact absurd h c
          · rw [ef, nI_1]
            exact hz C hC
    obtain ⟨u2, hz⟩ := inner k (a + 1) u fn ms (by omega) (by omega)
    refine ⟨u2, fun C hC => bX8_swap_48 hC ⟨fun h => ?_, fun _ => ?_⟩⟩
    · rw [hH1u] at h
      exact absurd h (nI_ge (by omega) (by omega))
    · rw [nI_1]
      exact hz C hC
end OQ
