/-! ORDER: rows of readers as numbers of base 4 -/
def rowAt (nr N i : Nat) : Nat := N / 4 ^ (nr - 1 - i) % 4
def ri (a : Nat → Nat) : Nat → Option Nat
  | 0 => none
  | k + 1 => if a k ≤ a (k + 1) then some k else ri a k
def ab (a : Nat → Nat) (r : Nat) : Nat → Nat
  | 0 => 0
  | k + 1 => if a r ≤ a (k + 1) then k + 1 else ab a r k
def xch (a : Nat → Nat) (i j : Nat) : Nat → Nat := fun t => if t = i then a j else if t = j then a i else a t
def rv : Nat → (Nat → Nat) → Nat → Nat → Nat → Nat
  | 0, a, _, _ => a
  | c + 1, a, lo, hi => if hi ≤ lo then a else rv c (xch a lo hi) (lo + 1) (hi - 1)
def nx (nr : Nat) (a : Nat → Nat) : Bool × (Nat → Nat) := match ri a (nr - 1) with
  | none => (false, a)
  | some r => (true, rv 4 (xch a r (ab a r (nr - 1))) (r + 1) (nr - 1))
def irB : Nat → Nat → Int32 → Int32
  | 0, _, x => x
  | k + 1, left, x => irB k (left / 4) (x ||| (1 <<< (nI (left % 4) &&& 31)))
def isP (nr N : Nat) : Bool := decide (irB nr N 0 = (1 <<< (nI nr &&& 31)) - 1)
def pl (nr : Nat) : Nat → Nat → List Nat
  | 0, _ => []
  | c + 1, n => if isP nr n = true then n :: pl nr c (n + 1) else pl nr c (n + 1)
/-- each row is the one next to the row before it -/
def chB (nr : Nat) : List Nat → Bool
  | [] => true
  | N :: t => (List.range nr).all (fun i => decide (rowAt nr N i < nr)) && (match t with
    | [] => !(nx nr (rowAt nr N)).1
    | M :: _ => (nx nr (rowAt nr N)).1 && (List.range nr).all (fun i => decide ((nx nr (rowAt nr N)).2 i = rowAt nr M i))) && chB nr t
def idB (nr : Nat) : List Nat → Bool
  | [] => false
  | N :: t => (List.range nr).all (fun i => decide (rowAt nr N i = i)) && decide (t.length < 24)
theorem pl_ch : ∀ nr, nr ≤ 4 → chB nr (pl nr (4 ^ nr) 0) = true ∧ idB nr (pl nr (4 ^ nr) 0) = true := by decide +kernel
theorem isP_lt : ∀ nr, nr ≤ 4 → (List.range (4 ^ nr)).all (fun N => !isP nr N || (List.range nr).all (fun i => decide (rowAt nr N i < nr))) = true := by decide +kernel
theorem row_lt {nr N i : Nat} (h4 : nr ≤ 4) (hN : N < 4 ^ nr) (hP : isP nr N = true) (hi : i < nr) : rowAt nr N i < nr := by
  have h := List.all_eq_true.mp (isP_lt nr h4) N (List.mem_range.mpr hN)
  rw [hP, Bool.not_true, Bool.false_or] at h
  exact of_decide_eq_true (List.all_eq_true.mp h i (List.mem_range.mpr hi))
theorem rowAt_4 (nr N i : Nat) : rowAt nr N i < 4 := Nat.mod_lt _ (by decide)
theorem ab_gt {a : Nat → Nat} {r : Nat} (h : a r ≤ a (r + 1)) : ∀ k, r < k → r < ab a r k ∧ ab a r k ≤ k
  | 0, hk => absurd hk (by omega)
  | k + 1, hk => by
    unfold ab
    by_cases c : a r ≤ a (k + 1)
    · rw [if_pos c]
      exact ⟨hk, Nat.le_refl _⟩
    · rw [if_neg c]
      have hne : r ≠ k := fun e => by
        subst e
        exact c h
      have := ab_gt h k (by omega)
      exact ⟨this.1, by omega⟩
theorem ri_lt {a : Nat → Nat} : ∀ (k r : Nat), ri a k = some r → r < k ∧ a r ≤ a (r + 1)
  | 0, r, h => by
    exact absurd h (by unfold ri; simp)
  | k + 1, r, h => by
    unfold ri at h
    by_cases c : a k ≤ a (k + 1)
    · rw [if_pos c] at h
      injection h with h
      subst h
      exact ⟨by omega, c⟩
    · rw [if_neg c] at h
      have := ri_lt k r h
      exact ⟨by omega, this.2⟩
def RW (v : OV) (nr : Nat) (a : Nat → Nat) : Prop := ∀ i, i < nr → v.2.2 8 i = nI (a i)
theorem RW.x {v : OV} {nr : Nat} {a : Nat → Nat} (h : RW v nr a) {i j : Nat} (hi : i < nr) (hj : j < nr) : RW (setA v 8 (upd (upd (v.2.2 8) j (v.2.2 8 i)) i (v.2.2 8 j))) nr (xch a i j) := by
  intro t ht
  rw [setA_s]
  unfold xch
  by_cases e : t = i
  · subst e
    rw [upd_self, if_pos rfl]
    exact h j hj
  · rw [upd_ne _ _ e, if_neg e]
    by_cases e2 : t = j
    · subst e2
      rw [upd_self, if_pos rfl]
      exact h i hi
    · rw [upd_ne _ _ e2, if_neg e2]
      exact h t ht
theorem xch_4 {a : Nat → Nat} (h : ∀ i, a i < 4) (i j t : Nat) : xch a i j t < 4 := by
  unfold xch
  by_cases e : t = i
  · rw [if_pos e]
    exact h j
  · rw [if_neg e]
    by_cases e2 : t = j
    · rw [if_pos e2]
      exact h i
    · rw [if_neg e2]
      exact h t
theorem zis08 : zis 0 8 0 4 := by
  unfold zis
  decide
/-- what of the object stays when its row of readers goes on -/
def K8 (v v1 : OV) : Prop := v1.1 = v.1 ∧ v1.2.1 = v.2.1 ∧ ∀ k, k ≠ 8 → v1.2.2 k = v.2.2 k
theorem K8.rf (v : OV) : K8 v v := ⟨rfl, rfl, fun _ _ => rfl⟩
theorem K8.tr {a b c : OV} (h : K8 a b) (h2 : K8 b c) : K8 a c := ⟨h2.1.trans h.1, h2.2.1.trans h.2.1, fun k hk => (h2.2.2 k hk).trans (h.2.2 k hk)⟩
theorem K8.A (v : OV) (g : Nat → Int32) : K8 v (setA v 8 g) := ⟨rfl, rfl, fun k hk => setA_n v g hk⟩
section ORP
variable {l : Launch} {ad : ZA} {D : va_G} {ia : Nat → ClassId} {d nb nr r b o o1 sn : Nat} {s : ZS} {p : PS} {f m w : Int32}
theorem ev_tn1 {C : ZC} {X : Option Value} {Y : ZS} {v : OV} {a : Nat → Nat} (h4 : nr ≤ 4) (hR : RW v nr a) (ha : ∀ i, a i < 4) (hC : Zok ad D ia C (d + 2) cX8_turnToNextOrder 6 RX8 (some .boolean)) : ∀ k, k + 1 ≤ nr → (ri a k = none → X = some (.int 0) ∧ Y = va_up s 0 v) → (∀ r, ri a k = some r → Z l ad D ia C X Y 35 [(0, .ref (ad 0 9)), (1, .int (nI nr)), (2, .int (nI r)), (3, .int (nI nr - 1))] [] (va_up s 0 v)) → Z l ad D ia C X Y 4 [(0, .ref (ad 0 9)), (1, .int (nI nr)), (2, .int (nI k - 1))] [] (va_up s 0 v) := by
  intro k
  induction k with
  | zero =>
    intro hk hn hs
    exact bX8_turnToNextOrder_4 zis08 hC ⟨fun _ => ⟨fun h => absurd h (by decide), fun _ => hn rfl⟩, fun h => absurd (by decide) h⟩
  | succ k ih =>
    intro hk hn hs
    have hnl : ¬ nI k < 0 := nI_pos (by omega)
    have hge : (0 : Int32) ≤ nI k := nI_le (a := 0) (Nat.zero_le _) (by omega)
    rw [nI_pred]
    refine bX8_turnToNextOrder_4 zis08 hC ⟨fun h => absurd h hnl, fun _ => ?_⟩
    have a0 := ha k
    have a1 := ha (k + 1)
    rw [nI_1, nI_clamp (show k < 2 ^ 31 by omega), nI_clamp (show k + 1 < 2 ^ 31 by omega), va_up_self, hR k (by omega), hR (k + 1) (by omega)]
    refine ⟨vp_in_nI (by omega) (by omega), vp_in_nI (by omega) (by omega), fun h => ⟨fun _ => hs k ?_, fun h => absurd hge h⟩, fun h => ?_⟩
    · have c : a k ≤ a (k + 1) := by
        apply Classical.byContradiction
        intro q
        exact nI_ge (a := a (k + 1)) (b := a k) (by omega) (by omega) h
      exact if_pos c
    · have c : ¬ a k ≤ a (k + 1) := fun q => h (nI_le q (by omega))
      have e : ri a (k + 1) = ri a k := if_neg c
      rw [e] at hn hs
      have e2 : nI k + (-1) = nI k - 1 := by grind
      rw [e2]
      exact ih (by omega) hn hs
theorem ev_tn2 {C : ZC} {X : Option Value} {Y : ZS} {v : OV} {a : Nat → Nat} {r : Nat} (h4 : nr ≤ 4) (hR : RW v nr a) (ha : ∀ i, a i < 4) (hr : a r ≤ a (r + 1)) (hC : Zok ad D ia C (d + 2) cX8_turnToNextOrder 6 RX8 (some .boolean)) : ∀ k, r < k → k < nr → Z l ad D ia C X Y 71 [(0, .ref (ad 0 9)), (4, .int (nI nr - 1)), (5, .int (nI (r + 1)))] [] (va_up s 0 (setA v 8 (upd (upd (v.2.2 8) (ab a r k) (v.2.2 8 r)) r (v.2.2 8 (ab a r k))))) → Z l ad D ia C X Y 35 [(0, .ref (ad 0 9)), (1, .int (nI nr)), (2, .int (nI r)), (3, .int (nI k))] [] (va_up s 0 v) := by
  intro k
  induction k with
  | zero =>
    intro hk
    exact absurd hk (by omega)
  | succ k ih =>
    intro hk hkn hz
    have a0 := ha r
    have a1 := ha (k + 1)
    refine bX8_turnToNextOrder_35 zis08 hC ⟨fun h => absurd h (nI_ge (by omega) (by omega)), fun _ => ⟨vp_in_nI (by omega) (by omega), vp_in_nI (by omega) (by omega), ?_⟩⟩
    rw [nI_clamp (show k + 1 < 2 ^ 31 by omega), nI_clamp (show r < 2 ^ 31 by omega), va_up_self, hR r (by omega), hR (k + 1) (by omega)]
    refine ⟨fun h => ?_, fun h => ?_⟩
    · have c : a r ≤ a (k + 1) := by
        apply Classical.byContradiction
        intro q
        exact nI_ge (a := a (k + 1)) (b := a r) (by omega) (by omega) h
      have e : ab a r (k + 1) = k + 1 := if_pos c
      rw [e] at hz
      have hx := ev_exchange (l := l) (ad := ad) (D := D) (ia := ia) (d := d) (s := va_up s 0 v) (o := 0) (k := 8) (n := 4) (i := r) (j := k + 1) zis08 (by omega) (by omega) (by decide) (by omega)
      rw [va_up_self, up_up] at hx
      rw [nI_1]
      exact ⟨_, hx, hz⟩
    · have c : ¬ a r ≤ a (k + 1) := fun q => h (nI_le q (by omega))
      have hne : r ≠ k := fun e => by
        subst e
        exact c hr
      have e : ab a r (k + 1) = ab a r k := if_neg c
      rw [e] at hz
      rw [nI_dec]
      exact ih (by omega) (by omega) hz
theorem ev_tn3 (h4 : nr ≤ 4) : ∀ (c lo hi : Nat) (v : OV) (a : Nat → Nat), hi < nr → hi ≤ lo + c → lo ≤ nr → RW v nr a → ∃ v2, RW v2 nr (rv c a lo hi) ∧ K8 v v2 ∧ ∀ C : ZC, Zok ad D ia C (d + 2) cX8_turnToNextOrder 6 RX8 (some .boolean) → Z l ad D ia C (some (.int 1)) (va_up s 0 v2) 71 [(0, .ref (ad 0 9)), (4, .int (nI hi)), (5, .int (nI lo))] [] (va_up s 0 v) := by
  intro c
  induction c with
  | zero =>
    intro lo hi v a h1 h2 h3 hR
    exact ⟨v, hR, K8.rf v, fun C hC => bX8_turnToNextOrder_71 zis08 hC ⟨fun _ => ⟨rfl, rfl⟩, fun h => absurd (nI_le (by omega) (by omega)) h⟩⟩
  | succ c ih =>
    intro lo hi v a h1 h2 h3 hR
    by_cases q : hi ≤ lo
    · have e : rv (c + 1) a lo hi = a := if_pos q
      rw [e]
      exact ⟨v, hR, K8.rf v, fun C hC => bX8_turnToNextOrder_71 zis08 hC ⟨fun _ => ⟨rfl, rfl⟩, fun h => absurd (nI_le (by omega) (by omega)) h⟩⟩
    · have e : rv (c + 1) a lo hi = rv c (xch a lo hi) (lo + 1) (hi - 1) := if_neg q
      rw [e]
      obtain ⟨v2, hR2, hk2, hz⟩ := ih (lo + 1) (hi - 1) _ _ (by omega) (by omega) (by omega) (hR.x (i := lo) (j := hi) (by omega) h1)
      have hx := ev_exchange (l := l) (ad := ad) (D := D) (ia := ia) (d := d) (s := va_up s 0 v) (o := 0) (k := 8) (n := 4) (i := lo) (j := hi) zis08 (by omega) (by omega) (by decide) (by omega)
      rw [va_up_self, up_up] at hx
      refine ⟨v2, hR2, (K8.A v _).tr hk2, fun C hC => bX8_turnToNextOrder_71 zis08 hC ⟨fun h => absurd h (nI_ge (by omega) (by omega)), fun _ => ⟨_, hx, ?_⟩⟩⟩
      have e2 : nI hi + (-1) = nI (hi - 1) := by
        have := nI_dec (hi - 1)
        rw [show hi - 1 + 1 = hi by omega] at this
        exact this
      rw [e2, nI_1]
      exact hz C hC
theorem ev_turn (h4 : nr ≤ 4) {v : OV} {a : Nat → Nat} (hR : RW v nr a) (ha : ∀ i, a i < 4) : ∃ v2, Ev l ad D ia (d + 2) mX8_turnToNextOrder [.ref (ad 0 9), .int (nI nr)] (va_up s 0 v) (some (.int (b1 (nx nr a).1))) (va_up s 0 v2) ∧ RW v2 nr (nx nr a).2 ∧ K8 v v2 := by
  cases hri : ri a (nr - 1) with
  | none =>
    have e : nx nr a = (false, a) := by
      unfold nx
      rw [hri]
    rw [e]
    refine ⟨v, eX8_turnToNextOrder zis08 (fun C hC => ?_), hR, K8.rf v⟩
    by_cases c : nr = 0
    · subst c
      exact bX8_turnToNextOrder_4 zis08 hC ⟨fun _ => ⟨fun h => absurd h (by decide), fun _ => ⟨rfl, rfl⟩⟩, fun h => absurd (by decide) h⟩
    · have e2 : nI nr - 2 = nI (nr - 1) - 1 := by
        have := nI_pred (nr - 1)
        rw [show nr - 1 + 1 = nr by omega] at this
        rw [← this]
        grind
      rw [e2]
      exact ev_tn1 h4 hR ha hC (nr - 1) (by omega) (fun _ => ⟨rfl, rfl⟩) (fun r q => by
        rw [hri] at q
        injection q)
  | some r =>
    have hl := ri_lt _ _ hri
    have hab := ab_gt hl.2 (nr - 1) hl.1
    have e : nx nr a = (true, rv 4 (xch a r (ab a r (nr - 1))) (r + 1) (nr - 1)) := by
      unfold nx
      rw [hri]
    rw [e]
    obtain ⟨v2, hR2, hk2, hz⟩ := ev_tn3 (l := l) (ad := ad) (D := D) (ia := ia) (d := d) (s := s) h4 4 (r + 1) (nr - 1) _ _ (by omega) (by omega) (by omega) (hR.x (i := r) (j := ab a r (nr - 1)) (by omega) (by omega))
    refine ⟨v2, eX8_turnToNextOrder zis08 (fun C hC => ?_), hR2, (K8.A v _).tr hk2⟩
    have e1 : nI nr - 1 = nI (nr - 1) := by
      have := nI_pred (nr - 1)
      rw [show nr - 1 + 1 = nr by omega] at this
      exact this
    have e2 : nI nr - 2 = nI (nr - 1) - 1 := by
      rw [← e1]
      grind
    rw [e2]
    refine ev_tn1 h4 hR ha hC (nr - 1) (by omega) (fun q => ?_) (fun r2 q => ?_)
    · rw [hri] at q
      injection q
    · rw [hri] at q
      injection q with q
      subst q
      rw [e1]
      refine ev_tn2 h4 hR ha hl.2 hC (nr - 1) hl.1 (by omega) ?_
      rw [e1]
      exact hz C hC
end ORP
