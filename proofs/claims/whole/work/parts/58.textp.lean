/-! THE TEXT, pure: a token is (sort, first byte, byte behind): 0 end, 1 name, 2 number, 3 stop, 4 none; a state is a fault (code, place) or the token taken last -/
def isL (c : Int32) : Bool := decide (97 ≤ c.toInt ∧ c.toInt ≤ 122)
def isDg (c : Int32) : Bool := decide (48 ≤ c.toInt ∧ c.toInt ≤ 57)
def srC (c : Int32) : Nat := if isL c = true then 1 else if isDg c = true then 2 else if c = 59 then 3 else 4
def skp (tb : Nat → Int32) : Nat → Nat → Nat
  | 0, q => q
  | k + 1, q => if tb q = 32 then skp tb k (q + 1) else q
def rnS (tb : Nat → Int32) (z : Nat) : Nat → Nat → Nat
  | 0, q => q
  | k + 1, q => if srC (tb q) = z then rnS tb z k (q + 1) else q
def tkF (tl : Nat) (tb : Nat → Int32) (q : Nat) : Nat := skp tb (tl - q) q
def tkZ (tl : Nat) (tb : Nat → Int32) (f : Nat) : Nat × Nat × Nat :=
  if f < tl then (if srC (tb f) = 1 then (1, f, rnS tb 1 (tl - (f + 1)) (f + 1)) else if srC (tb f) = 2 then (if rnS tb 2 (tl - (f + 1)) (f + 1) ≤ f + 2 then 2 else 4, f, rnS tb 2 (tl - (f + 1)) (f + 1)) else (srC (tb f), f, f + 1)) else (0, f, f)
def tk (tl : Nat) (tb : Nat → Int32) (q : Nat) : Nat × Nat × Nat := tkZ tl tb (tkF tl tb q)
abbrev TS : Type := Sum (Nat × Nat) (Nat × Nat × Nat)
def tkE (tl : Nat) (tb : Nat → Int32) (q : Nat) : TS := if (tk tl tb q).1 = 4 then .inl (1, (tk tl tb q).2.1) else .inr (tk tl tb q)
def bnd (r : TS) (k : Nat × Nat × Nat → TS) : TS := match r with
  | .inl e => .inl e
  | .inr t => k t
def nxt (tl : Nat) (tb : Nat → Int32) (r : TS) : TS := bnd r (fun t => tkE tl tb t.2.2)
def vlN (tb : Nat → Int32) : Nat → Nat → Int32 → Int32
  | 0, _, x => x
  | k + 1, q, x => vlN tb k (q + 1) (10 * x + tb q - 48)
def val (tb : Nat → Int32) (t : Nat × Nat × Nat) : Int32 := vlN tb (t.2.2 - t.2.1) t.2.1 0
def chN (tb : Nat → Int32) (lo hi : Nat) (t : Nat × Nat × Nat) : TS := if t.1 = 2 then (if lo ≤ (val tb t).toInt ∧ (val tb t).toInt ≤ hi then .inr t else .inl (3, t.2.1)) else .inl (2, t.2.1)
def chB8 (tb : Nat → Int32) (t : Nat × Nat × Nat) : TS := if val tb t = 8 then .inl (3, t.2.1) else .inr t
def chS (t : Nat × Nat × Nat) : TS := if t.1 = 3 then .inr t else .inl (2, t.2.1)
def vO (tb : Nat → Int32) (r : TS) : Int32 := match r with
  | .inl _ => 0
  | .inr t => val tb t
def bO (x : Int32) : Int32 := if x = 9 then -4 else x
theorem skp_le (tb : Nat → Int32) : ∀ k q, q ≤ skp tb k q ∧ skp tb k q ≤ q + k
  | 0, q => ⟨Nat.le_refl _, Nat.le_refl _⟩
  | k + 1, q => by
    unfold skp
    by_cases c : tb q = 32
    · rw [if_pos c]
      have := skp_le tb k (q + 1)
      omega
    · rw [if_neg c]
      omega
theorem rnS_le (tb : Nat → Int32) (z : Nat) : ∀ k q, q ≤ rnS tb z k q ∧ rnS tb z k q ≤ q + k
  | 0, q => ⟨Nat.le_refl _, Nat.le_refl _⟩
  | k + 1, q => by
    unfold rnS
    by_cases c : srC (tb q) = z
    · rw [if_pos c]
      have := rnS_le tb z k (q + 1)
      omega
    · rw [if_neg c]
      omega
theorem srC_pos (c : Int32) : 1 ≤ srC c ∧ srC c ≤ 4 := by
  unfold srC
  by_cases h1 : isL c = true
  · rw [if_pos h1]; omega
  · rw [if_neg h1]
    by_cases h2 : isDg c = true
    · rw [if_pos h2]; omega
    · rw [if_neg h2]
      by_cases h3 : c = 59
      · rw [if_pos h3]; omega
      · rw [if_neg h3]; omega
/-- what is always so of a token -/
theorem tk_ok {tl : Nat} {tb : Nat → Int32} {q : Nat} (h : q ≤ tl) : q ≤ (tk tl tb q).2.1 ∧ (tk tl tb q).2.1 ≤ (tk tl tb q).2.2 ∧ (tk tl tb q).2.2 ≤ tl ∧ (tk tl tb q).1 ≤ 4 ∧ ((tk tl tb q).1 ≠ 0 → (tk tl tb q).2.1 < (tk tl tb q).2.2) ∧ ((tk tl tb q).1 = 0 → (tk tl tb q).2.1 = tl ∧ (tk tl tb q).2.2 = tl) ∧ ((tk tl tb q).1 = 2 → (tk tl tb q).2.2 ≤ (tk tl tb q).2.1 + 2) := by
  have h1 := skp_le tb (tl - q) q
  unfold tk
  generalize hf : tkF tl tb q = f
  have hf1 : q ≤ f ∧ f ≤ tl := by
    rw [← hf]
    unfold tkF
    omega
  unfold tkZ
  have sp := srC_pos (tb f)
  have r1 := rnS_le tb 1 (tl - (f + 1)) (f + 1)
  have r2 := rnS_le tb 2 (tl - (f + 1)) (f + 1)
  by_cases c : f < tl
  · rw [if_pos c]
    by_cases c1 : srC (tb f) = 1
    · rw [if_pos c1]
      dsimp only
      omega
    · rw [if_neg c1]
      by_cases c2 : srC (tb f) = 2
      · rw [if_pos c2]
        dsimp only
        by_cases c3 : rnS tb 2 (tl - (f + 1)) (f + 1) ≤ f + 2
        · rw [if_pos c3]
          omega
        · rw [if_neg c3]
          omega
      · rw [if_neg c2]
        dsimp only
        omega
  · rw [if_neg c]
    dsimp only
    omega
/-- lines: books, readers, the library, whether the steps were told -/
abbrev LQ : Type := Nat × Nat × PS × Bool
def lnB (tl : Nat) (tb : Nat → Int32) (t : Nat × Nat × Nat) (L : LQ) : TS × LQ :=
  if L.1 < 8 then
    (bnd (nxt tl tb (bnd (bnd (nxt tl tb (bnd (nxt tl tb (bnd (nxt tl tb (.inr t)) (chN tb 0 7))) (chN tb 0 9))) (chN tb 0 9)) (chB8 tb))) chS,
      (L.1 + 1, L.2.1, pr (pr (pr L.2.2.1 0 L.1 (vO tb (bnd (nxt tl tb (.inr t)) (chN tb 0 7)))) 1 L.1 (vO tb (bnd (nxt tl tb (bnd (nxt tl tb (.inr t)) (chN tb 0 7))) (chN tb 0 9)))) 2 L.1 (bO (vO tb (bnd (nxt tl tb (bnd (nxt tl tb (bnd (nxt tl tb (.inr t)) (chN tb 0 7))) (chN tb 0 9))) (chN tb 0 9)))), L.2.2.2))
  else (.inl (5, t.2.1), L)
def lnR (tl : Nat) (tb : Nat → Int32) (kd : Nat) (t : Nat × Nat × Nat) (L : LQ) : TS × LQ :=
  if L.2.1 < 4 then
    (bnd (nxt tl tb (bnd (nxt tl tb (bnd (bnd (nxt tl tb (.inr t)) (chN tb 0 9)) (chB8 tb))) (chN tb 1 99))) chS,
      (L.1, L.2.1 + 1, pr (pr (pr (pr L.2.2.1 3 L.2.1 (nI kd)) 4 L.2.1 (bO (vO tb (bnd (nxt tl tb (.inr t)) (chN tb 0 9))))) 5 L.2.1 (vO tb (bnd (nxt tl tb (bnd (bnd (nxt tl tb (.inr t)) (chN tb 0 9)) (chB8 tb))) (chN tb 1 99)))) 6 L.2.1 0, L.2.2.2))
  else (.inl (5, t.2.1), L)
def lnS (tl : Nat) (tb : Nat → Int32) (t : Nat × Nat × Nat) (L : LQ) : TS × LQ :=
  if L.2.2.2 = false then
    (bnd (nxt tl tb (bnd (nxt tl tb (.inr t)) (chN tb 0 7))) chS, (L.1, L.2.1, pz L.2.2.1 0 (vO tb (bnd (nxt tl tb (.inr t)) (chN tb 0 7))), true))
  else (.inl (4, t.2.1), L)
/-- the token is word i -/
def chV (i j : Nat) : Int32 := (zsb.getD i []).getD j 0
def wdL (tb : Nat → Int32) (f i : Nat) : Nat → Nat → Bool
  | 0, _ => true
  | k + 1, j => decide (tb (f + j) = chV i j) && wdL tb f i k (j + 1)
def wd (tb : Nat → Int32) (t : Nat × Nat × Nat) (i : Nat) : Bool := decide (t.2.2 - t.2.1 = zsl.getD i 0) && wdL tb t.2.1 i (zsl.getD i 0) 0
def lnA (tl : Nat) (tb : Nat → Int32) (t : Nat × Nat × Nat) (L : LQ) : TS × LQ :=
  if t.1 = 1 then (if wd tb t 0 = true then lnB tl tb t L else if wd tb t 1 = true then lnR tl tb 0 t L else if wd tb t 2 = true then lnR tl tb 1 t L else if wd tb t 3 = true then lnR tl tb 2 t L else if wd tb t 4 = true then lnR tl tb 3 t L else if wd tb t 5 = true then lnS tl tb t L else (.inl (2, t.2.1), L))
  else (.inl (2, t.2.1), L)
def txF (tl : Nat) (tb : Nat → Int32) : Nat → TS → LQ → Nat → TS × LQ × Nat
  | 0, r, L, n => (r, L, n)
  | k + 1, r, L, n => match r with
    | .inl e => (.inl e, L, n)
    | .inr t => if t.1 = 0 then (.inr t, L, n) else txF tl tb k (nxt tl tb (lnA tl tb t L).1) (lnA tl tb t L).2 (n + 1)
theorem bnd_inr {r : TS} {k : Nat × Nat × Nat → TS} {u : Nat × Nat × Nat} (h : bnd r k = .inr u) : ∃ t, r = .inr t ∧ k t = .inr u := by
  cases r with
  | inl e => exact absurd h (by unfold bnd; simp)
  | inr t => exact ⟨t, rfl, h⟩
theorem chN_inr {tb : Nat → Int32} {lo hi : Nat} {t u : Nat × Nat × Nat} (h : chN tb lo hi t = .inr u) : u = t ∧ t.1 = 2 ∧ lo ≤ (val tb t).toInt ∧ (val tb t).toInt ≤ hi := by
  unfold chN at h
  by_cases c : t.1 = 2
  · rw [if_pos c] at h
    by_cases c2 : lo ≤ (val tb t).toInt ∧ (val tb t).toInt ≤ hi
    · rw [if_pos c2] at h
      injection h with h
      exact ⟨h.symm, c, c2⟩
    · rw [if_neg c2] at h
      injection h
  · rw [if_neg c] at h
    injection h
theorem chB_inr {tb : Nat → Int32} {t u : Nat × Nat × Nat} (h : chB8 tb t = .inr u) : u = t ∧ ¬ val tb t = 8 := by
  unfold chB8 at h
  by_cases c : val tb t = 8
  · rw [if_pos c] at h
    injection h
  · rw [if_neg c] at h
    injection h with h
    exact ⟨h.symm, c⟩
theorem chS_inr {t u : Nat × Nat × Nat} (h : chS t = .inr u) : u = t ∧ t.1 = 3 := by
  unfold chS at h
  by_cases c : t.1 = 3
  · rw [if_pos c] at h
    injection h with h
    exact ⟨h.symm, c⟩
  · rw [if_neg c] at h
    injection h
/-- a state that lies in the tape -/
def okT (tl : Nat) (r : TS) : Prop := match r with
  | .inl e => 1 ≤ e.1 ∧ e.1 ≤ 6 ∧ e.2 ≤ tl
  | .inr t => t.1 ≤ 3 ∧ t.2.1 ≤ t.2.2 ∧ t.2.2 ≤ tl ∧ (t.1 ≠ 0 → t.2.1 < t.2.2) ∧ (t.1 = 0 → t.2.1 = tl) ∧ (t.1 = 2 → t.2.2 ≤ t.2.1 + 2)
theorem tkE_ok {tl : Nat} {tb : Nat → Int32} {q : Nat} (h : q ≤ tl) : okT tl (tkE tl tb q) := by
  have := tk_ok (tb := tb) h
  unfold tkE
  by_cases c : (tk tl tb q).1 = 4
  · rw [if_pos c]
    exact ⟨Nat.le_of_ble_eq_true rfl, Nat.le_of_ble_eq_true rfl, by show (tk tl tb q).2.1 ≤ tl; omega⟩
  · rw [if_neg c]
    exact ⟨by omega, by omega, by omega, by omega, by omega, by omega⟩
theorem nxt_ok {tl : Nat} {tb : Nat → Int32} {r : TS} (h : okT tl r) : okT tl (nxt tl tb r) := by
  cases r with
  | inl e => exact h
  | inr t => exact tkE_ok h.2.2.1
theorem bndN_ok {tl : Nat} {tb : Nat → Int32} {r : TS} {lo hi : Nat} (h : okT tl r) : okT tl (bnd r (chN tb lo hi)) := by
  cases r with
  | inl e => exact h
  | inr t =>
    have h2 : t.2.1 ≤ tl := Nat.le_trans h.2.1 h.2.2.1
    show okT tl (chN tb lo hi t)
    unfold chN
    by_cases c : t.1 = 2
    · rw [if_pos c]
      by_cases c2 : lo ≤ (val tb t).toInt ∧ (val tb t).toInt ≤ hi
      · rw [if_pos c2]
        exact h
      · rw [if_neg c2]
        exact ⟨Nat.le_of_ble_eq_true rfl, Nat.le_of_ble_eq_true rfl, h2⟩
    · rw [if_neg c]
      exact ⟨Nat.le_of_ble_eq_true rfl, Nat.le_of_ble_eq_true rfl, h2⟩
theorem bndB_ok {tl : Nat} {tb : Nat → Int32} {r : TS} (h : okT tl r) : okT tl (bnd r (chB8 tb)) := by
  cases r with
  | inl e => exact h
  | inr t =>
    have h2 : t.2.1 ≤ tl := Nat.le_trans h.2.1 h.2.2.1
    show okT tl (chB8 tb t)
    unfold chB8
    by_cases c : val tb t = 8
    · rw [if_pos c]
      exact ⟨Nat.le_of_ble_eq_true rfl, Nat.le_of_ble_eq_true rfl, h2⟩
    · rw [if_neg c]
      exact h
theorem bndS_ok {tl : Nat} {r : TS} (h : okT tl r) : okT tl (bnd r chS) := by
  cases r with
  | inl e => exact h
  | inr t =>
    have h2 : t.2.1 ≤ tl := Nat.le_trans h.2.1 h.2.2.1
    show okT tl (chS t)
    unfold chS
    by_cases c : t.1 = 3
    · rw [if_pos c]
      exact h
    · rw [if_neg c]
      exact ⟨Nat.le_of_ble_eq_true rfl, Nat.le_of_ble_eq_true rfl, h2⟩
theorem lnB_ok {tl : Nat} {tb : Nat → Int32} {t : Nat × Nat × Nat} {L : LQ} (h : okT tl (.inr t)) : okT tl (lnB tl tb t L).1 := by
  have h2 : t.2.1 ≤ tl := Nat.le_trans h.2.1 h.2.2.1
  unfold lnB
  by_cases c : L.1 < 8
  · rw [if_pos c]
    exact bndS_ok (nxt_ok (bndB_ok (bndN_ok (nxt_ok (bndN_ok (nxt_ok (bndN_ok (nxt_ok h))))))))
  · rw [if_neg c]
    exact ⟨Nat.le_of_ble_eq_true rfl, Nat.le_of_ble_eq_true rfl, h2⟩
theorem lnR_ok {tl : Nat} {tb : Nat → Int32} {kd : Nat} {t : Nat × Nat × Nat} {L : LQ} (h : okT tl (.inr t)) : okT tl (lnR tl tb kd t L).1 := by
  have h2 : t.2.1 ≤ tl := Nat.le_trans h.2.1 h.2.2.1
  unfold lnR
  by_cases c : L.2.1 < 4
  · rw [if_pos c]
    exact bndS_ok (nxt_ok (bndN_ok (nxt_ok (bndB_ok (bndN_ok (nxt_ok h))))))
  · rw [if_neg c]
    exact ⟨Nat.le_of_ble_eq_true rfl, Nat.le_of_ble_eq_true rfl, h2⟩
theorem lnS_ok {tl : Nat} {tb : Nat → Int32} {t : Nat × Nat × Nat} {L : LQ} (h : okT tl (.inr t)) : okT tl (lnS tl tb t L).1 := by
  have h2 : t.2.1 ≤ tl := Nat.le_trans h.2.1 h.2.2.1
  unfold lnS
  by_cases c : L.2.2.2 = false
  · rw [if_pos c]
    exact bndS_ok (nxt_ok (bndN_ok (nxt_ok h)))
  · rw [if_neg c]
    exact ⟨Nat.le_of_ble_eq_true rfl, Nat.le_of_ble_eq_true rfl, h2⟩
theorem lnA_ok {tl : Nat} {tb : Nat → Int32} {t : Nat × Nat × Nat} {L : LQ} (h : okT tl (.inr t)) : okT tl (lnA tl tb t L).1 := by
  have h2 : t.2.1 ≤ tl := Nat.le_trans h.2.1 h.2.2.1
  have hb : okT tl (.inl (2, t.2.1)) := ⟨Nat.le_of_ble_eq_true rfl, Nat.le_of_ble_eq_true rfl, h2⟩
  unfold lnA
  split
  · split
    · exact lnB_ok h
    · split
      · exact lnR_ok h
      · split
        · exact lnR_ok h
        · split
          · exact lnR_ok h
          · split
            · exact lnR_ok h
            · split
              · exact lnS_ok h
              · exact hb
  · exact hb
/-- a line that is read goes on in the tape -/
def aft (q : Nat) (r : TS) : Prop := match r with
  | .inl _ => True
  | .inr t => q ≤ t.2.1
theorem nxt_aft {tl : Nat} {tb : Nat → Int32} {r : TS} {q : Nat} (h : okT tl r) (ha : aft q r) (hn : ∀ t, r = .inr t → t.1 ≠ 0) : aft (q + 1) (nxt tl tb r) := by
  cases r with
  | inl e => trivial
  | inr t =>
    have h1 := hn t rfl
    have h2 := h.2.2.2.1 h1
    have ha : q ≤ t.2.1 := ha
    have h3 := tk_ok (tb := tb) h.2.2.1
    show aft (q + 1) (tkE tl tb t.2.2)
    unfold tkE
    by_cases c : (tk tl tb t.2.2).1 = 4
    · rw [if_pos c]
      trivial
    · rw [if_neg c]
      show q + 1 ≤ (tk tl tb t.2.2).2.1
      omega
theorem nxt_aft0 {tl : Nat} {tb : Nat → Int32} {r : TS} {q : Nat} (h : okT tl r) (ha : aft q r) : aft q (nxt tl tb r) := by
  cases r with
  | inl e => trivial
  | inr t =>
    have ha : q ≤ t.2.1 := ha
    have h3 := tk_ok (tb := tb) h.2.2.1
    have h4 := h.2.1
    show aft q (tkE tl tb t.2.2)
    unfold tkE
    by_cases c : (tk tl tb t.2.2).1 = 4
    · rw [if_pos c]
      trivial
    · rw [if_neg c]
      show q ≤ (tk tl tb t.2.2).2.1
      omega
theorem bnd_aft {r : TS} {k : Nat × Nat × Nat → TS} {q : Nat} (ha : aft q r) (hk : ∀ t u, k t = .inr u → u = t) : aft q (bnd r k) := by
  cases r with
  | inl e => trivial
  | inr t =>
    show aft q (k t)
    cases e : k t with
    | inl e2 => trivial
    | inr u =>
      have := hk t u e
      subst this
      exact ha
theorem lnA_aft {tl : Nat} {tb : Nat → Int32} {t : Nat × Nat × Nat} {L : LQ} (h : okT tl (.inr t)) (h0 : t.1 ≠ 0) : aft (t.2.1 + 1) (lnA tl tb t L).1 := by
  have a0 : aft (t.2.1 + 1) (nxt tl tb (.inr t)) := nxt_aft h (Nat.le_refl t.2.1) (fun u e => by injection e with e; subst e; exact h0)
  have cN : ∀ lo hi (t u : Nat × Nat × Nat), chN tb lo hi t = .inr u → u = t := fun lo hi t u e => (chN_inr e).1
  have cB : ∀ (t u : Nat × Nat × Nat), chB8 tb t = .inr u → u = t := fun t u e => (chB_inr e).1
  have cS : ∀ (t u : Nat × Nat × Nat), chS t = .inr u → u = t := fun t u e => (chS_inr e).1
  have o0 := nxt_ok (tb := tb) h
  have hB : aft (t.2.1 + 1) (lnB tl tb t L).1 := by
    unfold lnB
    by_cases c : L.1 < 8
    · rw [if_pos c]
      exact bnd_aft (nxt_aft0 (bndB_ok (bndN_ok (nxt_ok (bndN_ok (nxt_ok (bndN_ok o0)))))) (bnd_aft (bnd_aft (nxt_aft0 (bndN_ok (nxt_ok (bndN_ok o0))) (bnd_aft (nxt_aft0 (bndN_ok o0) (bnd_aft a0 (cN _ _))) (cN _ _))) (cN _ _)) cB)) cS
    · rw [if_neg c]
      trivial
  have hR : ∀ kd, aft (t.2.1 + 1) (lnR tl tb kd t L).1 := fun kd => by
    unfold lnR
    by_cases c : L.2.1 < 4
    · rw [if_pos c]
      exact bnd_aft (nxt_aft0 (bndN_ok (nxt_ok (bndB_ok (bndN_ok o0)))) (bnd_aft (nxt_aft0 (bndB_ok (bndN_ok o0)) (bnd_aft (bnd_aft a0 (cN _ _)) cB)) (cN _ _))) cS
    · rw [if_neg c]
      trivial
  have hS : aft (t.2.1 + 1) (lnS tl tb t L).1 := by
    unfold lnS
    by_cases c : L.2.2.2 = false
    · rw [if_pos c]
      exact bnd_aft (nxt_aft0 (bndN_ok o0) (bnd_aft a0 (cN _ _))) cS
    · rw [if_neg c]
      trivial
  unfold lnA
  split
  · split
    · exact hB
    · split
      · exact hR 0
      · split
        · exact hR 1
        · split
          · exact hR 2
          · split
            · exact hR 3
            · split
              · exact hS
              · trivial
  · trivial
/-- by its end the text is read or has a fault -/
theorem txF_end {tl : Nat} {tb : Nat → Int32} (h160 : tl ≤ 160) : ∀ (k : Nat) (r : TS) (L : LQ) (n : Nat), n + k = 160 → okT tl r → aft n r → okT tl (txF tl tb k r L n).1 ∧ ∀ t, (txF tl tb k r L n).1 = .inr t → t.1 = 0
  | 0, r, L, n, hn, h, ha => by
    refine ⟨h, fun t e => ?_⟩
    have e : r = .inr t := e
    subst e
    apply Classical.byContradiction
    intro h0
    have h1 := h.2.2.2.1 h0
    have h2 := h.2.2.1
    have ha : n ≤ t.2.1 := ha
    omega
  | k + 1, r, L, n, hn, h, ha => by
    cases r with
    | inl e => exact ⟨h, fun t e2 => by injection e2⟩
    | inr t =>
      have e : txF tl tb (k + 1) (.inr t) L n = if t.1 = 0 then (.inr t, L, n) else txF tl tb k (nxt tl tb (lnA tl tb t L).1) (lnA tl tb t L).2 (n + 1) := rfl
      rw [e]
      by_cases c : t.1 = 0
      · rw [if_pos c]
        exact ⟨h, fun u e2 => by injection e2 with e2; subst e2; exact c⟩
      · rw [if_neg c]
        have ho := lnA_ok (tb := tb) (L := L) h
        have ha2 := lnA_aft (tb := tb) (L := L) h c
        have hle : n ≤ t.2.1 := ha
        exact txF_end h160 k _ _ (n + 1) (by omega) (nxt_ok ho) (nxt_aft0 ho (by
          cases hq : (lnA tl tb t L).1 with
          | inl e3 => trivial
          | inr u =>
            rw [hq] at ha2
            have ha2 : t.2.1 + 1 ≤ u.2.1 := ha2
            show n + 1 ≤ u.2.1
            omega))
