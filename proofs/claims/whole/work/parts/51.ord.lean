/-- readers spend a day in the order of a row -/
def sq (a : Nat → Nat) : Nat → Nat → PS → Int32 → Int32 → PS × Int32 × Int32
  | 0, _, p, f, w => (p, f, w)
  | k + 1, i, p, f, w => sq a k (i + 1) (gd 9 p (a i) 0 f w).1 (gd 9 p (a i) 0 f w).2.1 (gd 9 p (a i) 0 f w).2.2.1
def mN (p : PS) (nr N : Nat) : Int32 := (sq (rowAt nr N) nr 0 p 0 0).1.2 1 - p.2 1
def orF (p : PS) (nr : Nat) : List Nat → Int32 → Option Nat → Int32 × Option Nat
  | [], ls, bs => (ls, bs)
  | N :: t, ls, bs => if ls ≤ mN p nr N then orF p nr t ls bs else orF p nr t (mN p nr N) (some N)
theorem sq_bnd {nb nr : Nat} {a : Nat → Nat} : ∀ (k i : Nat) {p : PS} {f w : Int32}, PC nb nr p → (∀ j, j < i + k → a j < nr) → ∃ t, t ≤ 387 * k ∧ (sq a k i p f w).1.2 1 = p.2 1 + nI t
  | 0, i, p, f, w, h, ha => ⟨0, by omega, by rw [nI_0, Int32.add_zero]; rfl⟩
  | k + 1, i, p, f, w, h, ha => by
    obtain ⟨h1, ⟨t, ht, et⟩, -⟩ := gd_bnd 9 (p := p) (r := a i) (z := 0) (f := f) (w := w) h (ha i (by omega))
    obtain ⟨u, hu, eu⟩ := sq_bnd k (i + 1) (f := (gd 9 p (a i) 0 f w).2.1) (w := (gd 9 p (a i) 0 f w).2.2.1) h1 (fun j hj => ha j (by omega))
    refine ⟨t + u, by omega, ?_⟩
    show (sq a k (i + 1) _ _ _).1.2 1 = _
    rw [eu, et, nI_sum]
theorem mN_lt {nb nr N : Nat} {p : PS} (h : PC nb nr p) (hr : ∀ i, i < nr → rowAt nr N i < nr) : ¬ (1000000 : Int32) ≤ mN p nr N := by
  have h4 := h.1.1.2
  obtain ⟨t, ht, et⟩ := sq_bnd (a := rowAt nr N) nr 0 (f := 0) (w := 0) h (fun j hj => hr j (by omega))
  have e : mN p nr N = nI t := by
    unfold mN
    rw [et]
    grind
  rw [e]
  exact nI_ge (a := t) (b := 1000000) (by omega) (by omega)
theorem orF_some (p : PS) (nr : Nat) : ∀ (L : List Nat) (ls : Int32) (b : Nat), ∃ N, (orF p nr L ls (some b)).2 = some N
  | [], ls, b => ⟨b, rfl⟩
  | N :: t, ls, b => by
    unfold orF
    by_cases c : ls ≤ mN p nr N
    · rw [if_pos c]
      exact orF_some p nr t ls b
    · rw [if_neg c]
      exact orF_some p nr t _ N
theorem PI_sq {nb nr : Nat} {p : PS} {r : Nat} {f w : Int32} (h : PI nb nr p) (hr : r < nr) : PI nb nr (gd 9 p r 0 f w).1 := PI_gd 9 h hr
theorem up_s0 (s : ZS) (u v u2 : OV) : va_up (va_up (va_up s 2 u) 0 v) 2 u2 = va_up (va_up s 2 u2) 0 v := by
  rw [up_cm _ (by decide), up_up]
def FB (v : OV) (k nr : Nat) (bs : Option Nat) : Prop := ∀ N, bs = some N → ∀ i, i < nr → v.2.2 k i = nI (rowAt nr N i)
section ORD
variable {l : Launch} {ad : ZA} {D : va_G} {ia : Nat → ClassId} {d nb nr r b o o1 sn : Nat} {s : ZS} {p : PS} {f m w : Int32}
theorem ev_ordS (h4 : nr ≤ 4) {a : Nat → Nat} (hrow : ∀ i, i < nr → a i < nr) {v : OV} (hR : RW v nr a) {x2 x4 : Int32} : ∀ (k i : Nat) (q : PS) (f w : Int32) (u : OV), i + k = nr → HR u nb nr q f w → PI nb nr q → ∃ u2 f2 w2, HR u2 nb nr (sq a k i q f w).1 f2 w2 ∧ ∀ (C : ZC) (X : Option Value) (Y : ZS), Zok ad D ia C (d + 4) cX8_findOrder 6 RX8 (some .int) → Z l ad D ia C X Y 54 [(0, .ref (ad 0 0)), (1, .int (nI nr)), (2, .int x2), (4, .int x4), (5, .int (nI nr))] [] (va_up (va_up s 2 u2) 0 v) → Z l ad D ia C X Y 54 [(0, .ref (ad 0 0)), (1, .int (nI nr)), (2, .int x2), (4, .int x4), (5, .int (nI i))] [] (va_up (va_up s 2 u) 0 v) := by
  intro k
  induction k with
  | zero =>
    intro i q f w u hi hH hp
    have e : i = nr := by omega
    subst e
    exact ⟨u, f, w, hH, fun C X Y hC hz => hz⟩
  | succ k ih =>
    intro i q f w u hi hH hp
    have hHb : HR (va_up (va_up s 2 u) 0 v 2) nb nr q f w := by
      rw [va_up_ne _ _ (by decide), va_up_self]
      exact hH
    obtain ⟨u1, e1, hH1⟩ := ev_spendDay (l := l) (ad := ad) (D := D) (ia := ia) (d := d) (o := 2) (r := a i) rfl hHb hp (hrow i (by omega))
    rw [up_s0] at e1
    obtain ⟨u2, f2, w2, hH2, hz⟩ := ih (i + 1) _ _ _ u1 (by omega) hH1 (PI_sq hp (hrow i (by omega)))
    refine ⟨u2, f2, w2, hH2, fun C X Y hC hz0 => bX8_findOrder_54 hC ⟨fun h => absurd h (nI_ge (by omega) (by omega)), fun _ => ⟨vp_in_nI (by omega) (by omega), ?_⟩⟩⟩
    rw [nI_clamp (show i < 2 ^ 31 by omega), va_up_self, hR i (by omega), nI_1]
    exact ⟨_, _, e1, hz C X Y hC hz0⟩
def K89 (v v1 : OV) : Prop := v1.1 = v.1
theorem ev_ordL (h4 : nr ≤ 4) (hH1 : HQ (s 1) nb nr p) (hp : PI nb nr p) (h8 : nb ≤ 8) : ∀ (L : List Nat) (N i : Nat) (ls : Int32) (bs : Option Nat) (u v : OV), i + L.length < 24 → chB nr (N :: L) = true → RW v nr (rowAt nr N) → FB v 9 nr bs → ∃ u2 v2, v2.1 = v.1 ∧ FB v2 9 nr (orF p nr (N :: L) ls bs).2 ∧ ∀ C : ZC, Zok ad D ia C (d + 4) cX8_findOrder 6 RX8 (some .int) → Z l ad D ia C (some (.int (orF p nr (N :: L) ls bs).1)) (va_up (va_up s 2 u2) 0 v2) 36 [(0, .ref (ad 0 0)), (1, .int (nI nr)), (2, .int ls), (3, .int 1), (4, .int (nI i))] [] (va_up (va_up s 2 u) 0 v) := by
  intro L
  induction L with
  | nil =>
    intro N i ls bs u v hi hch hR hF
    have hch : ((List.range nr).all (fun i => decide (rowAt nr N i < nr)) && (!(nx nr (rowAt nr N)).1) && true) = true := hch
    rw [Bool.and_true, Bool.and_eq_true] at hch
    have hrow : ∀ i, i < nr → rowAt nr N i < nr := fun i hi => of_decide_eq_true (List.all_eq_true.mp hch.1 i (List.mem_range.mpr hi))
    have hnx : (nx nr (rowAt nr N)).1 = false := by simpa using hch.2
    have hq : HQ (va_up (va_up s 2 u) 0 v 1) nb nr p := by
      rw [va_up_ne _ _ (by decide), va_up_ne _ _ (by decide)]
      exact hH1
    obtain ⟨u1, hb1, hT⟩ := ev_beginTrial (l := l) (ad := ad) (D := D) (ia := ia) (d := d + 1) (s := va_up (va_up s 2 u) 0 v) hq h8 h4
    rw [up_s0] at hb1
    obtain ⟨u2, f2, w2, hH2, hz2⟩ := ev_ordS (l := l) (ad := ad) (D := D) (ia := ia) (d := d) (s := s) h4 hrow hR (x2 := ls) (x4 := nI i) nr 0 p 0 0 u1 (by omega) hT hp
    have htm : ∀ v2, Ev l ad D ia (d + 3) mX8_trialMinutes [.ref (ad 0 0)] (va_up (va_up s 2 u2) 0 v2) (some (.int (mN p nr N))) (va_up (va_up s 2 u2) 0 v2) := fun v2 => by
      refine eX8_trialMinutes ⟨?_, rfl⟩
      obtain ⟨f, w, hH⟩ := hH1
      have e2 : va_up (va_up s 2 u2) 0 v2 2 = u2 := by rw [va_up_ne _ _ (by decide), va_up_self]
      have e1 : va_up (va_up s 2 u2) 0 v2 1 = s 1 := by rw [va_up_ne _ _ (by decide), va_up_ne _ _ (by decide)]
      rw [e2, e1, hH2.n10, hH.n10]
      rfl
    have hnl : ¬ (24 : Int32) ≤ nI i := nI_ge (a := i) (b := 24) (by omega) (by omega)
    by_cases c : ls ≤ mN p nr N
    · obtain ⟨v3, e3, hR3, hk3⟩ := ev_turn (l := l) (ad := ad) (D := D) (ia := ia) (d := d + 1) (s := va_up s 2 u2) h4 hR (rowAt_4 nr N)
      rw [hnx] at e3
      have eo : orF p nr [N] ls bs = (ls, bs) := if_pos c
      rw [eo]
      refine ⟨u2, v3, hk3.1, fun M hM i hi => by rw [hk3.2.2 9 (by decide)]; exact hF M hM i hi, fun C hC => bX8_findOrder_36 hC ⟨fun h => absurd h hnl, fun _ => ⟨fun h => absurd h (by decide), fun _ => ⟨_, hb1, hz2 C _ _ hC (bX8_findOrder_54 hC ⟨fun _ => ⟨_, _, htm v, fun _ => ⟨_, _, e3, ?_⟩, fun h => absurd c h⟩, fun h => absurd (nI_le (Nat.le_refl _) (by omega)) h⟩)⟩⟩⟩⟩
      exact bX8_findOrder_36 hC ⟨fun _ => ⟨rfl, rfl⟩, fun _ => ⟨fun _ => ⟨rfl, rfl⟩, fun h => absurd rfl h⟩⟩
    · have hR9 : RW (setA v 9 (va_cpy (v.2.2 8) (v.2.2 9) 0 0 nr)) nr (rowAt nr N) := fun i hi => by
        rw [setA_n _ _ (by decide)]
        exact hR i hi
      obtain ⟨v3, e3, hR3, hk3⟩ := ev_turn (l := l) (ad := ad) (D := D) (ia := ia) (d := d + 1) (s := va_up s 2 u2) h4 hR9 (rowAt_4 nr N)
      rw [hnx] at e3
      have eo : orF p nr [N] ls bs = (mN p nr N, some N) := if_neg c
      rw [eo]
      refine ⟨u2, v3, hk3.1, fun M hM i hi => ?_, fun C hC => bX8_findOrder_36 hC ⟨fun h => absurd h hnl, fun _ => ⟨fun h => absurd h (by decide), fun _ => ⟨_, hb1, hz2 C _ _ hC (bX8_findOrder_54 hC ⟨fun _ => ⟨_, _, htm v, fun h => absurd h c, fun _ => ⟨_, _, htm v, ?_, fun s1 es => ⟨b1 false, va_up (va_up s 2 u2) 0 v3, ?_, ?_⟩⟩⟩, fun h => absurd (nI_le (Nat.le_refl _) (by omega)) h⟩)⟩⟩⟩⟩
      · have hM2 : N = M := by injection hM
        subst hM2
        rw [hk3.2.2 9 (by decide), setA_s, cpy0 hi]
        exact hR i hi
      · rw [nI_clamp (by omega)]
        exact ⟨nI_pos (by omega), h4, h4⟩
      · rw [va_up_self, c0, nI_clamp (by omega), stR_up] at es
        subst es
        exact e3
      · exact bX8_findOrder_36 hC ⟨fun _ => ⟨rfl, rfl⟩, fun _ => ⟨fun _ => ⟨rfl, rfl⟩, fun h => absurd rfl h⟩⟩
  | cons M L ih =>
    intro N i ls bs u v hi hch hR hF
    have hi : i + (L.length + 1) < 24 := hi
    have hch : ((List.range nr).all (fun i => decide (rowAt nr N i < nr)) && ((nx nr (rowAt nr N)).1 && (List.range nr).all (fun i => decide ((nx nr (rowAt nr N)).2 i = rowAt nr M i))) && chB nr (M :: L)) = true := hch
    rw [Bool.and_eq_true, Bool.and_eq_true, Bool.and_eq_true] at hch
    have hrow : ∀ i, i < nr → rowAt nr N i < nr := fun i hi => of_decide_eq_true (List.all_eq_true.mp hch.1.1 i (List.mem_range.mpr hi))
    have hnx := hch.1.2.1
    have hnr : ∀ i, i < nr → (nx nr (rowAt nr N)).2 i = rowAt nr M i := fun i hi => of_decide_eq_true (List.all_eq_true.mp hch.1.2.2 i (List.mem_range.mpr hi))
    have hq : HQ (va_up (va_up s 2 u) 0 v 1) nb nr p := by
      rw [va_up_ne _ _ (by decide), va_up_ne _ _ (by decide)]
      exact hH1
    obtain ⟨u1, hb1, hT⟩ := ev_beginTrial (l := l) (ad := ad) (D := D) (ia := ia) (d := d + 1) (s := va_up (va_up s 2 u) 0 v) hq h8 h4
    rw [up_s0] at hb1
    obtain ⟨u2, f2, w2, hH2, hz2⟩ := ev_ordS (l := l) (ad := ad) (D := D) (ia := ia) (d := d) (s := s) h4 hrow hR (x2 := ls) (x4 := nI i) nr 0 p 0 0 u1 (by omega) hT hp
    have htm : ∀ v2, Ev l ad D ia (d + 3) mX8_trialMinutes [.ref (ad 0 0)] (va_up (va_up s 2 u2) 0 v2) (some (.int (mN p nr N))) (va_up (va_up s 2 u2) 0 v2) := fun v2 => by
      refine eX8_trialMinutes ⟨?_, rfl⟩
      obtain ⟨f, w, hH⟩ := hH1
      have e2 : va_up (va_up s 2 u2) 0 v2 2 = u2 := by rw [va_up_ne _ _ (by decide), va_up_self]
      have e1 : va_up (va_up s 2 u2) 0 v2 1 = s 1 := by rw [va_up_ne _ _ (by decide), va_up_ne _ _ (by decide)]
      rw [e2, e1, hH2.n10, hH.n10]
      rfl
    have hnl : ¬ (24 : Int32) ≤ nI i := nI_ge (a := i) (b := 24) (by omega) (by omega)
    by_cases c : ls ≤ mN p nr N
    · obtain ⟨v3, e3, hR3, hk3⟩ := ev_turn (l := l) (ad := ad) (D := D) (ia := ia) (d := d + 1) (s := va_up s 2 u2) h4 hR (rowAt_4 nr N)
      rw [hnx] at e3
      have hF3 : FB v3 9 nr bs := fun M hM i hi => by
        rw [hk3.2.2 9 (by decide)]
        exact hF M hM i hi
      obtain ⟨u4, v4, hk4, hF4, hz4⟩ := ih M (i + 1) ls bs u2 v3 (by omega) hch.2 (fun i hi => by rw [hR3 i hi, hnr i hi]) hF3
      have eo : orF p nr (N :: M :: L) ls bs = orF p nr (M :: L) ls bs := if_pos c
      rw [eo]
      refine ⟨u4, v4, hk4.trans hk3.1, hF4, fun C hC => bX8_findOrder_36 hC ⟨fun h => absurd h hnl, fun _ => ⟨fun h => absurd h (by decide), fun _ => ⟨_, hb1, hz2 C _ _ hC (bX8_findOrder_54 hC ⟨fun _ => ⟨_, _, htm v, fun _ => ⟨_, _, e3, ?_⟩, fun h => absurd c h⟩, fun h => absurd (nI_le (Nat.le_refl _) (by omega)) h⟩)⟩⟩⟩⟩
      rw [nI_1]
      exact hz4 C hC
    · have hR9 : RW (setA v 9 (va_cpy (v.2.2 8) (v.2.2 9) 0 0 nr)) nr (rowAt nr N) := fun i hi => by
        rw [setA_n _ _ (by decide)]
        exact hR i hi
      obtain ⟨v3, e3, hR3, hk3⟩ := ev_turn (l := l) (ad := ad) (D := D) (ia := ia) (d := d + 1) (s := va_up s 2 u2) h4 hR9 (rowAt_4 nr N)
      rw [hnx] at e3
      have hF3 : FB v3 9 nr (some N) := fun M hM i hi => by
        have hM2 : N = M := by injection hM
        subst hM2
        rw [hk3.2.2 9 (by decide), setA_s, cpy0 hi]
        exact hR i hi
      obtain ⟨u4, v4, hk4, hF4, hz4⟩ := ih M (i + 1) (mN p nr N) (some N) u2 v3 (by omega) hch.2 (fun i hi => by rw [hR3 i hi, hnr i hi]) hF3
      have eo : orF p nr (N :: M :: L) ls bs = orF p nr (M :: L) (mN p nr N) (some N) := if_neg c
      rw [eo]
      refine ⟨u4, v4, hk4.trans hk3.1, hF4, fun C hC => bX8_findOrder_36 hC ⟨fun h => absurd h hnl, fun _ => ⟨fun h => absurd h (by decide), fun _ => ⟨_, hb1, hz2 C _ _ hC (bX8_findOrder_54 hC ⟨fun _ => ⟨_, _, htm v, fun h => absurd h c, fun _ => ⟨_, _, htm v, ?_, fun s1 es => ⟨b1 true, va_up (va_up s 2 u2) 0 v3, ?_, ?_⟩⟩⟩, fun h => absurd (nI_le (Nat.le_refl _) (by omega)) h⟩)⟩⟩⟩⟩
      · rw [nI_clamp (by omega)]
        exact ⟨nI_pos (by omega), h4, h4⟩
      · rw [va_up_self, c0, nI_clamp (by omega), stR_up] at es
        subst es
        exact e3
      · rw [nI_1]
        exact hz4 C hC
theorem ev_ordI (h4 : nr ≤ 4) : ∀ (k i : Nat) (v : OV), i + k = nr → (∀ j, j < i → v.2.2 8 j = nI j) → ∃ v2, v2.1 = v.1 ∧ (∀ j, j < nr → v2.2.2 8 j = nI j) ∧ ∀ (C : ZC) (X : Option Value) (Y : ZS), Zok ad D ia C (d + 4) cX8_findOrder 6 RX8 (some .int) → Z l ad D ia C X Y 36 [(0, .ref (ad 0 0)), (1, .int (nI nr)), (2, .int 1000000), (3, .int 1), (4, .int 0)] [] (va_up s 0 v2) → Z l ad D ia C X Y 10 [(0, .ref (ad 0 0)), (1, .int (nI nr)), (2, .int (nI i))] [] (va_up s 0 v) := by
  intro k
  induction k with
  | zero =>
    intro i v hi hv
    have e : i = nr := by omega
    subst e
    exact ⟨v, rfl, hv, fun C X Y hC hz => bX8_findOrder_10 hC ⟨fun _ => hz, fun h => absurd (nI_le (Nat.le_refl _) (by omega)) h⟩⟩
  | succ k ih =>
    intro i v hi hv
    obtain ⟨v2, hk, h2, hz⟩ := ih (i + 1) (setA v 8 (upd (v.2.2 8) i (nI i))) (by omega) (fun j hj => by
      rw [setA_s]
      by_cases e : j = i
      · subst e
        rw [upd_self]
      · rw [upd_ne _ _ e]
        exact hv j (by omega))
    refine ⟨v2, hk, h2, fun C X Y hC hz0 => bX8_findOrder_10 hC ⟨fun h => absurd h (nI_ge (by omega) (by omega)), fun _ => ⟨vp_in_nI (by omega) (by omega), fun s1 e1 => ?_⟩⟩⟩
    rw [nI_clamp (by omega), stA_up] at e1
    subst e1
    rw [nI_1]
    exact hz C X Y hC hz0
/-- the first of the best orders -/
def orV (p : PS) (nr : Nat) : Int32 × Option Nat := orF p nr (pl nr (4 ^ nr) 0) 1000000 none
theorem ev_findOrder (hH1 : HQ (s 1) nb nr p) (hp : PI nb nr p) : ∃ u2 v2, v2.1 = (s 0).1 ∧ FB v2 9 nr (orV p nr).2 ∧ Ev l ad D ia (d + 4) mX8_findOrder [.ref (ad 0 0)] s (some (.int (orV p nr).1)) (va_up (va_up s 2 u2) 0 v2) := by
  have h8 := hp.1.1
  have h4 := hp.1.2
  have hpl := pl_ch nr h4
  unfold orV
  cases hL : pl nr (4 ^ nr) 0 with
  | nil =>
    rw [hL] at hpl
    exact absurd (show false = true from hpl.2) (by decide)
  | cons N L =>
    rw [hL] at hpl
    have hid : ((List.range nr).all (fun i => decide (rowAt nr N i = i)) && decide (L.length < 24)) = true := hpl.2
    rw [Bool.and_eq_true] at hid
    obtain ⟨v1, hk1, hr1, hz1⟩ := ev_ordI (l := l) (ad := ad) (D := D) (ia := ia) (d := d) (s := s) h4 nr 0 (s 0) (by omega) (fun j hj => absurd hj (by omega))
    rw [up_id] at hz1
    have es : va_up (va_up s 2 (s 2)) 0 v1 = va_up s 0 v1 := by rw [up_id]
    obtain ⟨u2, v2, hk2, hF2, hz2⟩ := ev_ordL (l := l) (ad := ad) (D := D) (ia := ia) (d := d) (s := s) h4 hH1 hp h8 L N 0 1000000 none (s 2) v1 (by have := of_decide_eq_true hid.2; omega) hpl.1 (fun i hi => by
      rw [hr1 i hi, of_decide_eq_true (List.all_eq_true.mp hid.1 i (List.mem_range.mpr hi))]) (fun M hM => by injection hM)
    rw [es] at hz2
    refine ⟨u2, v2, hk2.trans hk1, hF2, eX8_findOrder (fun C hC => ?_)⟩
    obtain ⟨f, w, hH⟩ := hH1
    rw [hH.n4]
    exact hz1 C _ _ hC (hz2 C hC)
/-- the reference: a number's row -/
theorem mv_isRowL {s0 v0 : OV} (h4 : nr ≤ 4) {N : Nat} (hN : N < 256) : ∀ (k : Nat) (v : OV) (x : Int32), k ≤ nr → v.1 4 = nI nr → (∀ i, k ≤ i → i < nr → v.2.2 22 i = nI (rowAt nr N i)) → ∃ v2, (v2.1 = v.1 ∧ ∀ j, j ≠ 22 → v2.2.2 j = v.2.2 j) ∧ (∀ i, i < nr → v2.2.2 22 i = nI (rowAt nr N i)) ∧ ∀ C : ZC, Zok ad D ia C d cX9_isRow 5 RX9 (some .boolean) → Z l ad D ia C (some (.int (b1 (decide (irB k (N / 4 ^ (nr - k)) x = (1 <<< (nI nr &&& 31)) - 1))))) (va_up s 20 v2) 12 [(0, .ref (ad 20 0)), (2, .int (nI (N / 4 ^ (nr - k)))), (3, .int x), (4, .int (nI k - 1))] [] (va_up s 20 v) := by
  intro k
  induction k with
  | zero =>
    intro v x hk hr hv
    refine ⟨v, ⟨rfl, fun _ _ => rfl⟩, fun i hi => hv i (by omega) hi, fun C hC => bX9_isRow_12 hC ⟨fun _ => ⟨fun h => ⟨?_, rfl⟩, fun h => ⟨?_, rfl⟩⟩, fun h => absurd (by decide) h⟩⟩
    · rw [va_up_self, hr] at h
      show some (Value.int (b1 (decide (x = _)))) = _
      rw [decide_eq_false h]
      rfl
    · rw [va_up_self, hr] at h
      show some (Value.int (b1 (decide (x = _)))) = _
      rw [decide_eq_true h]
      rfl
  | succ k ih =>
    intro v x hk hr hv
    have hd1 : N / 4 ^ (nr - (k + 1)) < 256 := Nat.lt_of_le_of_lt (Nat.div_le_self _ _) hN
    have ed : nI (N / 4 ^ (nr - (k + 1))) / 4 = nI (N / 4 ^ (nr - k)) := by
      have := pk_div (a := N / 4 ^ (nr - (k + 1))) (d := 4) (by omega) (by omega) (by omega)
      have e2 : N / 4 ^ (nr - (k + 1)) / 4 = N / 4 ^ (nr - k) := by
        rw [Nat.div_div_eq_div_mul, show nr - k = nr - (k + 1) + 1 by omega, Nat.pow_succ]
      rw [e2] at this
      exact this
    have er : rm32 (nI (N / 4 ^ (nr - (k + 1)))) 4 = nI (rowAt nr N k) := by
      have := rm_nI (a := N / 4 ^ (nr - (k + 1))) (c := 4) (by omega) (by omega) (by omega)
      unfold rowAt
      rw [show nr - 1 - k = nr - (k + 1) by omega]
      exact this
    obtain ⟨v2, hk2, h2, hz⟩ := ih (setA v 22 (upd (v.2.2 22) k (nI (rowAt nr N k)))) (x ||| (1 <<< (nI (rowAt nr N k) &&& 31))) (by omega) hr (fun i h1 h3 => by
      rw [setA_s]
      by_cases e : i = k
      · subst e
        rw [upd_self]
      · rw [upd_ne _ _ e]
        exact hv i (by omega) h3)
    have eb : irB (k + 1) (N / 4 ^ (nr - (k + 1))) x = irB k (N / 4 ^ (nr - k)) (x ||| (1 <<< (nI (rowAt nr N k) &&& 31))) := by
      show irB k (N / 4 ^ (nr - (k + 1)) / 4) (x ||| (1 <<< (nI (N / 4 ^ (nr - (k + 1)) % 4) &&& 31))) = _
      unfold rowAt
      rw [show nr - 1 - k = nr - (k + 1) by omega, Nat.div_div_eq_div_mul, show nr - k = nr - (k + 1) + 1 by omega, Nat.pow_succ]
    rw [eb]
    refine ⟨v2, ⟨hk2.1, fun j hj => (hk2.2 j hj).trans (setA_n v _ hj)⟩, h2, fun C hC => ?_⟩
    rw [nI_pred]
    refine bX9_isRow_12 hC ⟨fun h => absurd h (nI_pos (by omega)), fun _ => ⟨vp_in_nI (by omega) (by omega), fun s1 e1 => ⟨vp_in_nI (by omega) (by omega), ?_⟩⟩⟩
    rw [er, nI_clamp (by omega), stA_up] at e1
    subst e1
    have e2 : nI k + (-1) = nI k - 1 := by grind
    rw [va_up_self, nI_clamp (by omega), setA_s, upd_self, ed, e2]
    exact hz C hC
theorem mv_isRow (h4 : nr ≤ 4) {N : Nat} (hN : N < 256) {v : OV} (hr : v.1 4 = nI nr) : ∃ v2, (v2.1 = v.1 ∧ ∀ j, j ≠ 22 → v2.2.2 j = v.2.2 j) ∧ (∀ i, i < nr → v2.2.2 22 i = nI (rowAt nr N i)) ∧ Ev l ad D ia d mX9_isRow [.ref (ad 20 0), .int (nI N)] (va_up s 20 v) (some (.int (b1 (isP nr N)))) (va_up s 20 v2) := by
  obtain ⟨v2, hk2, h2, hz⟩ := mv_isRowL (l := l) (ad := ad) (D := D) (ia := ia) (d := d) (s := s) (s0 := v) (v0 := v) h4 hN nr v 0 (Nat.le_refl _) hr (fun i h1 h3 => absurd h3 (by omega))
  refine ⟨v2, hk2, h2, eX9_isRow (fun C hC => ?_)⟩
  have hz := hz C hC
  rw [Nat.sub_self, Nat.pow_zero, Nat.div_one] at hz
  rw [va_up_self, hr]
  exact hz
theorem mv_byRowL {N : Nat} (h4 : nr ≤ 4) (hrow : ∀ i, i < nr → rowAt nr N i < nr) : ∀ (k i : Nat) (q : PS) (f m w : Int32) (v : OV), i + k = nr → MM v nb nr q f m w → PI nb nr q → (∀ i, i < nr → v.2.2 22 i = nI (rowAt nr N i)) → ∃ v2, KN v v2 ∧ ∀ C : ZC, Zok ad D ia C (d + 4) cX9_minutesByRow 2 RX9 (some .int) → Z l ad D ia C (some (.int (m + ((sq (rowAt nr N) k i q f w).1.2 1 - q.2 1)))) (va_up s 20 v2) 10 [(0, .ref (ad 20 0)), (1, .int (nI i))] [] (va_up s 20 v) := by
  intro k
  induction k with
  | zero =>
    intro i q f m w v hi hM hp hv
    refine ⟨v, KN.rf v, fun C hC => bX9_minutesByRow_10 hC ⟨fun _ => ⟨?_, rfl⟩, fun h => ?_⟩⟩
    · rw [va_up_self, hM.2.2.2.1]
      show some (Value.int (m + (q.2 1 - q.2 1))) = _
      rw [mi0]
    · rw [va_up_self, hM.1.2] at h
      exact absurd (nI_le (by omega) (by omega)) h
  | succ k ih =>
    intro i q f m w v hi hM hp hv
    have hMb : MM (va_up s 20 v 20) nb nr q f m w := by rw [va_up_self]; exact hM
    obtain ⟨v1, e1, hM1, hk1, -⟩ := mv_readerGoes (l := l) (ad := ad) (D := D) (ia := ia) (d := d) (r := rowAt nr N i) hMb hp (hrow i (by omega))
    rw [up_up] at e1
    rw [va_up_self] at hk1
    obtain ⟨v2, hk2, hz⟩ := ih (i + 1) _ _ _ _ v1 (by omega) hM1 (PI_sq hp (hrow i (by omega))) (fun i hi => by rw [hk1.1.2.1 22 (by decide)]; exact hv i hi)
    rw [mi2] at hz
    refine ⟨v2, hk1.tr hk2, fun C hC => bX9_minutesByRow_10 hC ⟨fun h => ?_, fun _ => ⟨vp_in_nI (by omega) (by omega), ?_⟩⟩⟩
    · rw [va_up_self, hM.1.2] at h
      exact absurd h (nI_ge (by omega) (by omega))
    · rw [va_up_self, nI_clamp (by omega), hv i (by omega), nI_1]
      exact ⟨_, e1, hz C hC⟩
theorem KM.r22 {v v1 : OV} (h : v1.1 = v.1 ∧ ∀ j, j ≠ 22 → v1.2.2 j = v.2.2 j) : KM v v1 := ⟨fun k _ => by rw [h.1], fun k hk => h.2 k (by omega)⟩
theorem mv_byRow {s0 : ZS} {nb nr : Nat} {p : PS} {tl : Nat} {tb : Nat → Int32} {flt : Int32} {sn : Nat} {sa : Nat → Nat → Int32} {K : KT} {H : HT} {tn : Int32} (hM : MR (s0 20) nb nr p tl tb flt sn sa K H tn) (hp : PI nb nr p) {N : Nat} (hrow : ∀ i, i < nr → rowAt nr N i < nr) {v : OV} (hk : KM (s0 20) v) (hv : ∀ i, i < nr → v.2.2 22 i = nI (rowAt nr N i)) : ∃ v2, KM (s0 20) v2 ∧ v2.2.2 22 = v.2.2 22 ∧ v2.2.2 23 = v.2.2 23 ∧ Ev l ad D ia (d + 4) mX9_minutesByRow [.ref (ad 20 0)] (va_up s 20 v) (some (.int (mN p nr N))) (va_up s 20 v2) := by
  have h8 := hp.1.1
  have h4 := hp.1.2
  have hM1 := MR_km hk hM
  obtain ⟨v0, e0, hM0, hk0⟩ := mv_starts (l := l) (ad := ad) (D := D) (ia := ia) (d := d + 3) (s := va_up s 20 v) (nb := nb) (nr := nr) (p := p) (by rw [va_up_self]; exact hM1.1) (by rw [va_up_self]; exact hM1.2.2.2.1) h8 h4
  rw [up_up] at e0
  rw [va_up_self] at hk0
  have hM0b : MM (va_up s 20 v0 20) nb nr p (v0.1 18) (v0.1 19) (v0.1 20) := by rw [va_up_self]; exact hM0
  obtain ⟨v3, e3, hM3, hk3⟩ := mv_startsCounting (l := l) (ad := ad) (D := D) (ia := ia) (d := d + 3) hM0b
  rw [up_up] at e3
  rw [va_up_self] at hk3
  have hk03 := hk0.tr hk3.1
  obtain ⟨v4, hk4, hz⟩ := mv_byRowL (l := l) (ad := ad) (D := D) (ia := ia) (d := d) (s := s) (N := N) h4 hrow nr 0 p 0 0 0 v3 (by omega) hM3 hp (fun i hi => by rw [hk03.2.1 22 (by decide)]; exact hv i hi)
  have hk04 := hk03.tr hk4.1
  refine ⟨v4, hk.tr hk04.M, hk04.2.1 22 (by decide), hk04.2.1 23 (by decide), eX9_minutesByRow (fun C hC => ⟨_, e0, _, e3, ?_⟩)⟩
  have e : (0 : Int32) + ((sq (rowAt nr N) nr 0 p 0 0).1.2 1 - p.2 1) = mN p nr N := by
    unfold mN
    grind
  have hz := hz C hC
  rw [e] at hz
  exact hz
theorem i_le_tr {a b c : Int32} (h : a ≤ b) (h2 : b ≤ c) : a ≤ c := by
  rw [Int32.le_iff_toInt_le] at *
  omega
theorem i_nle {a b : Int32} (h : ¬ a ≤ b) : b ≤ a := by
  rw [Int32.le_iff_toInt_le] at *
  omega
theorem mv_ordL {s0 : ZS} {nb nr : Nat} {p : PS} {tl : Nat} {tb : Nat → Int32} {flt : Int32} {sn : Nat} {sa : Nat → Nat → Int32} {K : KT} {H : HT} {tn : Int32} (hM : MR (s0 20) nb nr p tl tb flt sn sa K H tn) (hp : PI nb nr p) : ∀ (k n : Nat) (ls : Int32) (bs : Option Nat) (v : OV), n + k = 4 ^ nr → ls ≤ 1000000 → KM (s0 20) v → FB v 23 nr bs → ∃ v2, KM (s0 20) v2 ∧ FB v2 23 nr (orF p nr (pl nr k n) ls bs).2 ∧ ∀ C : ZC, Zok ad D ia C (d + 5) cX9_findOrder 6 RX9 (some .int) → Z l ad D ia C (some (.int (orF p nr (pl nr k n) ls bs).1)) (va_up s 20 v2) 28 [(0, .ref (ad 20 0)), (1, .int (nI (4 ^ nr))), (2, .int ls), (3, .int (nI n))] [] (va_up s 20 v) := by
  have h4 := hp.1.2
  have h256 : 4 ^ nr ≤ 256 := by
    have := Nat.pow_le_pow_right (n := 4) (by decide) h4
    exact this
  intro k
  induction k with
  | zero =>
    intro n ls bs v hn hls hk hF
    exact ⟨v, hk, hF, fun C hC => bX9_findOrder_28 hC ⟨fun _ => ⟨rfl, rfl⟩, fun h => absurd (nI_le (by omega) (by omega)) h⟩⟩
  | succ k ih =>
    intro n ls bs v hn hls hk hF
    have hnl : ¬ nI (4 ^ nr) ≤ nI n := nI_ge (by omega) (by omega)
    have hr : v.1 4 = nI nr := by rw [hk.1 4 (by omega)]; exact hM.1.2
    obtain ⟨v1, hk1, hrow1, e1⟩ := mv_isRow (l := l) (ad := ad) (D := D) (ia := ia) (d := d + 4) (s := s) h4 (N := n) (by omega) hr
    have hkm1 := hk.tr (KM.r22 hk1)
    have hF1 : FB v1 23 nr bs := fun M hM i hi => by
      rw [hk1.2 23 (by decide)]
      exact hF M hM i hi
    cases hP : isP nr n
    · rw [hP] at e1
      have epl : pl nr (k + 1) n = pl nr k (n + 1) := if_neg (by rw [hP]; decide)
      rw [epl]
      obtain ⟨v2, hk2, hF2, hz⟩ := ih (n + 1) ls bs v1 (by omega) hls hkm1 hF1
      refine ⟨v2, hk2, hF2, fun C hC => bX9_findOrder_28 hC ⟨fun h => absurd h hnl, fun _ => ⟨_, _, e1, fun _ => ⟨fun _ => ?_, fun h => absurd hls h⟩, fun h => absurd rfl h⟩⟩⟩
      rw [nI_1]
      exact hz C hC
    · rw [hP] at e1
      have hrow : ∀ i, i < nr → rowAt nr n i < nr := fun i hi => row_lt h4 (by omega) hP hi
      have epl : pl nr (k + 1) n = n :: pl nr k (n + 1) := if_pos hP
      rw [epl]
      obtain ⟨v2, hk2, h22, h23, e2⟩ := mv_byRow (l := l) (ad := ad) (D := D) (ia := ia) (d := d) (s := s) hM hp hrow hkm1 hrow1
      by_cases c : ls ≤ mN p nr n
      · have eo : orF p nr (n :: pl nr k (n + 1)) ls bs = orF p nr (pl nr k (n + 1)) ls bs := if_pos c
        rw [eo]
        obtain ⟨v3, hk3, hF3, hz⟩ := ih (n + 1) ls bs v2 (by omega) hls hk2 (fun M hM i hi => by rw [h23]; exact hF1 M hM i hi)
        refine ⟨v3, hk3, hF3, fun C hC => bX9_findOrder_28 hC ⟨fun h => absurd h hnl, fun _ => ⟨_, _, e1, fun h => absurd h (by decide), fun _ => ⟨_, _, e2, fun _ => ?_, fun h => absurd c h⟩⟩⟩⟩
        rw [nI_1]
        exact hz C hC
      · have eo : orF p nr (n :: pl nr k (n + 1)) ls bs = orF p nr (pl nr k (n + 1)) (mN p nr n) (some n) := if_neg c
        rw [eo]
        have cp : ∀ (c i : Nat) (v : OV), i + c = nr → KM (s0 20) v → (∀ i, i < nr → v.2.2 22 i = nI (rowAt nr n i)) → (∀ j, j < i → v.2.2 23 j = nI (rowAt nr n j)) → ∃ v2, KM (s0 20) v2 ∧ FB v2 23 nr (some n) ∧ ∀ (C : ZC) (X : Option Value) (Y : ZS), Zok ad D ia C (d + 5) cX9_findOrder 6 RX9 (some .int) → Z l ad D ia C X Y 28 [(0, .ref (ad 20 0)), (1, .int (nI (4 ^ nr))), (2, .int (mN p nr n)), (3, .int (nI (n + 1)))] [] (va_up s 20 v2) → Z l ad D ia C X Y 65 [(0, .ref (ad 20 0)), (1, .int (nI (4 ^ nr))), (2, .int (mN p nr n)), (3, .int (nI n)), (5, .int (nI i))] [] (va_up s 20 v) := by
          intro c
          induction c with
          | zero =>
            intro i v hi hkv hv22 hv23
            have er : (va_up s 20 v 20).1 4 = nI nr := by rw [va_up_self, hkv.1 4 (by omega)]; exact hM.1.2
            refine ⟨v, hkv, fun M hM j hj => ?_, fun C X Y hC hz => bX9_findOrder_65 hC ⟨fun _ => ?_, fun h => ?_⟩⟩
            · have hM2 : n = M := by injection hM
              subst hM2
              exact hv23 j (by omega)
            · rw [nI_1]
              exact hz
            · rw [er] at h
              exact absurd (nI_le (by omega) (by omega)) h
          | succ c ih2 =>
            intro i v hi hkv hv22 hv23
            have er : (va_up s 20 v 20).1 4 = nI nr := by rw [va_up_self, hkv.1 4 (by omega)]; exact hM.1.2
            obtain ⟨v2, a1, a2, a3⟩ := ih2 (i + 1) (setA v 23 (upd (v.2.2 23) i (nI (rowAt nr n i)))) (by omega) (hkv.tr ⟨fun _ _ => rfl, fun k hk => setA_n v _ (by omega)⟩) (fun j hj => by rw [setA_n _ _ (by decide)]; exact hv22 j hj) (fun j hj => by
              rw [setA_s]
              by_cases e : j = i
              · subst e
                rw [upd_self]
              · rw [upd_ne _ _ e]
                exact hv23 j (by omega))
            refine ⟨v2, a1, a2, fun C X Y hC hz => bX9_findOrder_65 hC ⟨fun h => ?_, fun _ => ⟨vp_in_nI (by omega) (by omega), vp_in_nI (by omega) (by omega), fun s1 es => ?_⟩⟩⟩
            · rw [er] at h
              exact absurd h (nI_ge (by omega) (by omega))
            · rw [va_up_self, nI_clamp (by omega), hv22 i (by omega), stA_up] at es
              subst es
              rw [nI_1]
              exact a3 C X Y hC hz
        obtain ⟨v3, hk3, hF3, hz3⟩ := cp nr 0 v2 (by omega) hk2 (fun i hi => by rw [h22]; exact hrow1 i hi) (fun j hj => absurd hj (by omega))
        obtain ⟨v4, hk4, hF4, hz⟩ := ih (n + 1) (mN p nr n) (some n) v3 (by omega) (i_le_tr (i_nle c) hls) hk3 hF3
        exact ⟨v4, hk4, hF4, fun C hC => bX9_findOrder_28 hC ⟨fun h => absurd h hnl, fun _ => ⟨_, _, e1, fun h => absurd h (by decide), fun _ => ⟨_, _, e2, fun h => absurd h c, fun _ => hz3 C _ _ hC (hz C hC)⟩⟩⟩⟩
theorem mv_findOrder {s0 : ZS} {nb nr : Nat} {p : PS} {tl : Nat} {tb : Nat → Int32} {flt : Int32} {sn : Nat} {sa : Nat → Nat → Int32} {K : KT} {H : HT} {tn : Int32} (hM : MR (s0 20) nb nr p tl tb flt sn sa K H tn) (hp : PI nb nr p) (hk : KM (s0 20) (s 20)) : ∃ v2, KM (s0 20) v2 ∧ FB v2 23 nr (orV p nr).2 ∧ Ev l ad D ia (d + 5) mX9_findOrder [.ref (ad 20 0)] s (some (.int (orV p nr).1)) (va_up s 20 v2) := by
  have h4 := hp.1.2
  obtain ⟨v2, hk2, hF2, hz⟩ := mv_ordL (l := l) (ad := ad) (D := D) (ia := ia) (d := d) (s := s) hM hp (4 ^ nr) 0 1000000 none (s 20) (by omega) (by decide) hk (fun M hM => by injection hM)
  rw [up_id] at hz
  refine ⟨v2, hk2, hF2, eX9_findOrder (fun C hC => ?_)⟩
  have hr : (s 20).1 4 = nI nr := by rw [hk.1 4 (by omega)]; exact hM.1.2
  have h : ∀ (k i : Nat), i + k = nr → Z l ad D ia C (some (.int (orV p nr).1)) (va_up s 20 v2) 8 [(0, .ref (ad 20 0)), (1, .int (nI (4 ^ i))), (2, .int 1000000), (3, .int (nI i))] [] s := by
    intro k
    induction k with
    | zero =>
      intro i hi
      have e : i = nr := by omega
      subst e
      exact bX9_findOrder_8 hC ⟨fun _ => hz C hC, fun h => by
        rw [hr] at h
        exact absurd (nI_le (Nat.le_refl _) (by omega)) h⟩
    | succ k ih =>
      intro i hi
      refine bX9_findOrder_8 hC ⟨fun h => ?_, fun _ => ?_⟩
      · rw [hr] at h
        exact absurd h (nI_ge (by omega) (by omega))
      · have e : nI (4 ^ i) * 4 = nI (4 ^ (i + 1)) := by
          show nI (4 ^ i) * nI 4 = _
          rw [nI_mul, Nat.pow_succ]
        rw [e, nI_1]
        exact ih (i + 1) (by omega)
  exact h nr 0 (by omega)
theorem orV_some {nb nr : Nat} {p : PS} (h : PC nb nr p) : ∃ N, (orV p nr).2 = some N := by
  have h4 := h.1.1.2
  have hpl := pl_ch nr h4
  unfold orV
  cases hL : pl nr (4 ^ nr) 0 with
  | nil =>
    rw [hL] at hpl
    exact absurd (show false = true from hpl.2) (by decide)
  | cons N L =>
    rw [hL] at hpl
    have hid : ((List.range nr).all (fun i => decide (rowAt nr N i = i)) && decide (L.length < 24)) = true := hpl.2
    rw [Bool.and_eq_true] at hid
    have hrow : ∀ i, i < nr → rowAt nr N i < nr := fun i hi => by
      rw [of_decide_eq_true (List.all_eq_true.mp hid.1 i (List.mem_range.mpr hi))]
      exact hi
    have e : orF p nr (N :: L) 1000000 none = orF p nr L (mN p nr N) (some N) := if_neg (mN_lt h hrow)
    rw [e]
    exact orF_some p nr L _ N
theorem ev_out10 (x : Int32) (h4 : nr ≤ 4) : Ev l ad D ia d mX8_outside [.int x, .int 10, .int (9 + nI nr)] s (some (.int (b1 (!inN (x - 10) nr)))) s := by
  have e9 : 9 + nI nr = nI (9 + nr) := nI_add 9 nr
  have i10 : (10 : Int32).toInt = 10 := by decide
  have key : inN (x - 10) nr = decide (10 ≤ x.toInt ∧ x.toInt ≤ 9 + nr) := by
    by_cases c : inN (x - 10) nr = true
    · obtain ⟨k, hk, e⟩ := inN_nI c
      have ex : x = nI (k + 10) := by
        have : x = nI k + 10 := by
          rw [← e]
          grind
        rw [this]
        exact nI_add k 10
      rw [c, ex, nI_toInt (by omega)]
      exact (decide_eq_true (by omega)).symm
    · by_cases q : 10 ≤ x.toInt ∧ x.toInt ≤ 9 + nr
      · have ex : x = nI x.toInt.toNat := nI_of_toInt (by omega)
        have ej : x - 10 = nI (x.toInt.toNat - 10) := by
          rw [ex]
          have := pk_sub (a := (nI x.toInt.toNat).toInt.toNat) (b := 10) (by rw [← ex]; omega)
          rw [← ex] at this ⊢
          rw [← ex] at this
          exact this
        exact absurd (by rw [ej]; exact nI_inN (by omega) (by omega)) c
      · rw [bool_f c, decide_eq_false q]
  rw [e9, key]
  refine eX8_outside ⟨fun h1 => ⟨?_, rfl⟩, fun h1 => ⟨fun h2 => ⟨?_, rfl⟩, fun h2 => ⟨?_, rfl⟩⟩⟩
  · rw [Int32.lt_iff_toInt_lt, i10] at h1
    rw [decide_eq_false (by omega)]
    rfl
  · rw [Int32.lt_iff_toInt_lt, i10] at h1
    rw [Int32.le_iff_toInt_le, nI_toInt (by omega)] at h2
    rw [decide_eq_true (by omega)]
    rfl
  · rw [Int32.le_iff_toInt_le, nI_toInt (by omega)] at h2
    rw [decide_eq_false (by omega)]
    rfl
theorem op_order (hR : RR s) (x : Int32) : Op l ad D ia s mX8_order mX9_order [.int x] := by
  obtain ⟨nb, nr, p, tl, tb, flt, sn, sa, K, H, tn, hG, hC, hM⟩ := hR
  have hbad : RR s := ⟨nb, nr, p, tl, tb, flt, sn, sa, K, H, tn, hG, hC, hM⟩
  have hp := hG.1.1
  have h8 := hp.1.1
  have h4 := hp.1.2
  obtain ⟨f, w, hH⟩ := hC.1
  obtain ⟨u2, v2, hk2, hF2, e2⟩ := ev_findOrder (l := l) (ad := ad) (D := D) (ia := ia) (d := 4) (s := s) hC.1 hp
  have h20 : va_up (va_up s 2 u2) 0 v2 20 = s 20 := by rw [va_up_ne _ _ (by decide), va_up_ne _ _ (by decide)]
  obtain ⟨v3, hk3, hF3, e3⟩ := mv_findOrder (l := l) (ad := ad) (D := D) (ia := ia) (d := 3) (s := va_up (va_up s 2 u2) 0 v2) hM hp (KM.eq h20)
  have hkc : KC s (va_up (va_up s 2 u2) 0 v2) := by
    refine ⟨fun o ho => ?_, ?_, ?_⟩
    · rw [va_up_ne _ _ (by omega), va_up_ne _ _ (by omega)]
    · rw [va_up_self, hk2]
    · rw [va_up_self, hk2]
  obtain ⟨N, hN⟩ := orV_some hG.1.C
  by_cases c0 : x = 0
  · subst c0
    exact ⟨.int (orV p nr).1, _, _, eX8_order ⟨fun _ => ⟨_, _, e2, fun h => absurd rfl h, fun _ => ⟨rfl, rfl⟩⟩, fun h => absurd rfl h⟩, eX9_order ⟨fun _ => ⟨_, _, e3, fun h => absurd rfl h, fun _ => ⟨rfl, rfl⟩⟩, fun h => absurd rfl h⟩, RR_sc hG hC hM hkc hk3⟩
  · have o1 := ev_out10 (l := l) (ad := ad) (D := D) (ia := ia) (d := 8) (s := s) x h4
    rw [← hH.n4] at o1
    have i1 := fun s2 (h : (s2 20).1 4 = nI nr) => mv_isReader (l := l) (ad := ad) (D := D) (ia := ia) (d := 7) (s := s2) h h4 (x - 10)
    by_cases cx : inN (x - 10) nr = true
    · rw [cx] at o1 i1
      obtain ⟨i, hi, ei⟩ := inN_nI cx
      refine ⟨.int (nI (rowAt nr N i)), _, _, eX8_order ⟨fun h => absurd h c0, fun _ => ⟨_, _, o1, fun _ => ⟨_, _, e2, fun _ => ⟨?_, ?_, rfl⟩, fun h => absurd h c0⟩, fun h => absurd rfl h⟩⟩, eX9_order ⟨fun h => absurd h c0, fun _ => ⟨_, _, i1 _ (by rw [h20]; exact hM.1.2), fun _ => ⟨_, _, e3, fun _ => ⟨?_, ?_, rfl⟩, fun h => absurd h c0⟩, fun h => absurd h (by decide)⟩⟩, RR_sc hG hC hM hkc hk3⟩
      · rw [ei]
        exact vp_in_nI (by omega) (by omega)
      · rw [va_up_self, ei, nI_clamp (by omega), hF2 N hN i hi]
      · rw [ei]
        exact vp_in_nI (by omega) (by omega)
      · rw [va_up_self, ei, nI_clamp (by omega), hF3 N hN i hi]
    · rw [bool_f cx] at o1 i1
      exact ⟨.int (-1), _, _, eX8_order ⟨fun h => absurd h c0, fun _ => ⟨_, _, o1, fun h => absurd h (by decide), fun _ => ⟨rfl, rfl⟩⟩⟩, eX9_order ⟨fun h => absurd h c0, fun _ => ⟨_, _, i1 _ hM.1.2, fun h => absurd rfl h, fun _ => ⟨rfl, rfl⟩⟩⟩, hbad⟩
end ORD
