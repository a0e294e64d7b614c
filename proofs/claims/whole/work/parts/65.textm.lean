/-! THE TEXT, the reference's side: tokens -/
def MT (v : OV) (tl : Nat) (tb : Nat → Int32) (r : TS) : Prop := (v.1 11 = nI tl ∧ ∀ j, j < tl → v.2.2 10 j = tb j) ∧ (match r with
  | .inl e => v.1 16 = nI e.1 ∧ v.1 17 = nI e.2
  | .inr t => v.1 16 = 0 ∧ v.1 14 = nI t.1 ∧ v.1 13 = nI t.2.1 ∧ v.1 12 = nI t.2.2 ∧ (t.1 = 2 → v.1 15 = val tb t))
def FM (v v1 : OV) : Prop := (∀ k, k < 12 ∨ 17 < k → v1.1 k = v.1 k) ∧ v1.2.2 = v.2.2
theorem FM.rf (v : OV) : FM v v := ⟨fun _ _ => rfl, rfl⟩
theorem FM.tr {a b c : OV} (h : FM a b) (h2 : FM b c) : FM a c := ⟨fun k hk => (h2.1 k hk).trans (h.1 k hk), h2.2.trans h.2⟩
theorem FM.I (v : OV) {k : Nat} (x : Int32) (hk : 12 ≤ k ∧ k ≤ 17) : FM v (setI v k x) := ⟨fun j hj => sI_n _ _ (by omega), rfl⟩
def byA (tl : Nat) (tb : Nat → Int32) (q : Nat) : Int32 := if q < tl then tb q else -1
theorem skp_stop {tl : Nat} {tb : Nat → Int32} : ∀ k q, q + k = tl → skp tb k q < tl → ¬ tb (skp tb k q) = 32
  | 0, q, hk, h => by
    have h : q < tl := h
    omega
  | k + 1, q, hk, h => by
    unfold skp at h ⊢
    by_cases c : tb q = 32
    · rw [if_pos c] at h ⊢
      exact skp_stop k (q + 1) (by omega) h
    · rw [if_neg c]
      exact c
theorem rnS_stop {tl : Nat} {tb : Nat → Int32} {z : Nat} : ∀ k q, q + k = tl → rnS tb z k q < tl → ¬ srC (tb (rnS tb z k q)) = z
  | 0, q, hk, h => by
    have h : q < tl := h
    omega
  | k + 1, q, hk, h => by
    unfold rnS at h ⊢
    by_cases c : srC (tb q) = z
    · rw [if_pos c] at h ⊢
      exact rnS_stop k (q + 1) (by omega) h
    · rw [if_neg c]
      exact c
theorem vlN_snoc (tb : Nat → Int32) : ∀ k q x, vlN tb (k + 1) q x = 10 * vlN tb k q x + tb (q + k) - 48
  | 0, q, x => rfl
  | k + 1, q, x => by
    have e1 : vlN tb (k + 1 + 1) q x = vlN tb (k + 1) (q + 1) (10 * x + tb q - 48) := rfl
    have e2 : vlN tb (k + 1) q x = vlN tb k (q + 1) (10 * x + tb q - 48) := rfl
    rw [e1, e2, vlN_snoc tb k, show q + 1 + k = q + (k + 1) by omega]
theorem srC_1 {c : Int32} : srC c = 1 ↔ isL c = true := by
  unfold srC
  by_cases h1 : isL c = true
  · rw [if_pos h1]
    exact ⟨fun _ => h1, fun _ => rfl⟩
  · rw [if_neg h1]
    refine ⟨fun h => ?_, fun h => absurd h h1⟩
    by_cases h2 : isDg c = true
    · rw [if_pos h2] at h
      omega
    · rw [if_neg h2] at h
      by_cases h3 : c = 59
      · rw [if_pos h3] at h
        omega
      · rw [if_neg h3] at h
        omega
theorem isL_Dg {c : Int32} (h : isDg c = true) : isL c = false := by
  unfold isDg at h
  unfold isL
  have h := of_decide_eq_true h
  exact decide_eq_false (by omega)
theorem srC_2 {c : Int32} : srC c = 2 ↔ isDg c = true := by
  unfold srC
  by_cases h2 : isDg c = true
  · rw [if_neg (by rw [isL_Dg h2]; decide), if_pos h2]
    exact ⟨fun _ => h2, fun _ => rfl⟩
  · refine ⟨fun h => ?_, fun h => absurd h h2⟩
    by_cases h1 : isL c = true
    · rw [if_pos h1] at h
      omega
    · rw [if_neg h1, if_neg h2] at h
      by_cases h3 : c = 59
      · rw [if_pos h3] at h
        omega
      · rw [if_neg h3] at h
        omega
theorem srC_3 {c : Int32} (h1 : ¬ srC c = 1) (h2 : ¬ srC c = 2) : srC c = if c = 59 then 3 else 4 := by
  have h1 : ¬ isL c = true := fun q => h1 (srC_1.mpr q)
  have h2 : ¬ isDg c = true := fun q => h2 (srC_2.mpr q)
  unfold srC
  rw [if_neg h1, if_neg h2]
section TXM
variable {l : Launch} {ad : ZA} {D : va_G} {ia : Nat → ClassId} {d : Nat} {s : ZS} {tl : Nat} {tb : Nat → Int32} {v : OV}
theorem mv_byteAt (h160 : tl ≤ 160) (h1 : v.1 11 = nI tl) (hb : ∀ j, j < tl → v.2.2 10 j = tb j) {q : Nat} (hq : q < 2 ^ 31) : Ev l ad D ia d mX9_byteAt [.ref (ad 20 0), .int (nI q)] (va_up s 20 v) (some (.int (byA tl tb q))) (va_up s 20 v) := by
  refine eX9_byteAt ?_
  rw [va_up_self, h1, nI_clamp hq]
  unfold byA
  by_cases c : q < tl
  · rw [if_pos c]
    exact ⟨fun h => absurd h (nI_ge c (by omega)), fun _ => ⟨vp_in_nI (by omega) (by omega), by rw [hb q c], rfl⟩⟩
  · rw [if_neg c]
    exact ⟨fun _ => ⟨rfl, rfl⟩, fun h => absurd (nI_le (by omega) hq) h⟩
theorem mv_inLt (c : Int32) : Ev l ad D ia d mX9_in [.long c.toInt64, .long 97, .long 122] s (some (.int (b1 (isL c)))) s := by
  have h := mv_in (l := l) (ad := ad) (D := D) (ia := ia) (d := d) (s := s) c.toInt64 97 122
  rw [i64_toInt] at h
  exact h
theorem mv_inD (c : Int32) : Ev l ad D ia d mX9_in [.long c.toInt64, .long 48, .long 57] s (some (.int (b1 (isDg c)))) s := by
  have h := mv_in (l := l) (ad := ad) (D := D) (ia := ia) (d := d) (s := s) c.toInt64 48 57
  rw [i64_toInt] at h
  exact h
theorem mv_need0 (h : v.1 16 = 0) (c : Int32) : Ev l ad D ia d mX9_needs [.ref (ad 20 0), .int 0, .int c] (va_up s 20 v) none (va_up s 20 (setI (setI v 16 c) 17 (v.1 13))) := by
  refine eX9_needs ⟨fun q => absurd rfl q, fun _ => ⟨fun q => absurd (by rw [va_up_self]; exact h) q, fun _ s3 e3 s4 e4 => ⟨rfl, ?_⟩⟩⟩
  rw [stI_up] at e3
  subst e3
  rw [va_up_self, sI_n _ _ (by decide), stI_up] at e4
  exact e4.symm
theorem mv_need1 {x : Int32} (hx : ¬ x = 0) (c : Int32) : Ev l ad D ia d mX9_needs [.ref (ad 20 0), .int x, .int c] s none s := eX9_needs ⟨fun _ => ⟨rfl, rfl⟩, fun q => absurd q hx⟩
theorem mv_needLt {e : Nat × Nat} (h : MT v tl tb (.inl e)) (ho : okT tl (.inl e)) (x c : Int32) : Ev l ad D ia d mX9_needs [.ref (ad 20 0), .int x, .int c] (va_up s 20 v) none (va_up s 20 v) := by
  refine eX9_needs ⟨fun _ => ⟨rfl, rfl⟩, fun _ => ⟨fun _ => ⟨rfl, rfl⟩, fun q => absurd q ?_⟩⟩
  rw [va_up_self, h.2.1]
  exact nI_fl (okE ho)
/-- spaces -/
theorem tak8 {C : ZC} {Y : ZS} (hC : Zok ad D ia C (d + 1) cX9_takes 2 RX9 none) (h160 : tl ≤ 160) : ∀ (k q : Nat) (v : OV), q + k = tl → v.1 11 = nI tl → (∀ j, j < tl → v.2.2 10 j = tb j) → v.1 12 = nI q → Z l ad D ia C none Y 8 [(0, .ref (ad 20 0))] [] (va_up s 20 (setI v 12 (nI (skp tb k q)))) → Z l ad D ia C none Y 8 [(0, .ref (ad 20 0))] [] (va_up s 20 v) := by
  intro k
  induction k with
  | zero =>
    intro q v hk h1 hb h12 kz
    have e0 : skp tb 0 q = q := rfl
    rw [e0, setI_id h12] at kz
    exact kz
  | succ k ih =>
    intro q v hk h1 hb h12 kz
    by_cases c : tb q = 32
    · have e0 : skp tb (k + 1) q = skp tb k (q + 1) := by
        show (if tb q = 32 then skp tb k (q + 1) else q) = _
        rw [if_pos c]
      rw [e0] at kz
      refine bX9_takes_8 hC ?_
      rw [va_up_self, h12]
      have hB := mv_byteAt (l := l) (ad := ad) (D := D) (ia := ia) (d := d) (s := s) h160 h1 hb (q := q) (by omega)
      have eb : byA tl tb q = 32 := by unfold byA; rw [if_pos (by omega)]; exact c
      rw [eb] at hB
      refine ⟨_, _, hB, fun h => absurd rfl h, fun _ s30 e => ?_⟩
      rw [va_up_self, h12, nI_1, stI_up] at e
      subst e
      refine ih (q + 1) (setI v 12 (nI (q + 1))) (by omega) (by rw [sI_n _ _ (by decide)]; exact h1) hb (sI_s _ _ _) ?_
      rw [setI_I]
      exact kz
    · have e0 : skp tb (k + 1) q = q := by
        show (if tb q = 32 then skp tb k (q + 1) else q) = _
        rw [if_neg c]
      rw [e0, setI_id h12] at kz
      exact kz
/-- letters -/
theorem tak82 {C : ZC} {Y : ZS} (hC : Zok ad D ia C (d + 1) cX9_takes 2 RX9 none) (h160 : tl ≤ 160) : ∀ (k q : Nat) (v : OV), q + k = tl → v.1 11 = nI tl → (∀ j, j < tl → v.2.2 10 j = tb j) → v.1 12 = nI q → Z l ad D ia C none Y 82 [(0, .ref (ad 20 0))] [] (va_up s 20 (setI v 12 (nI (rnS tb 1 k q)))) → Z l ad D ia C none Y 82 [(0, .ref (ad 20 0))] [] (va_up s 20 v) := by
  intro k
  induction k with
  | zero =>
    intro q v hk h1 hb h12 kz
    have e0 : rnS tb 1 0 q = q := rfl
    rw [e0, setI_id h12] at kz
    exact kz
  | succ k ih =>
    intro q v hk h1 hb h12 kz
    by_cases c : srC (tb q) = 1
    · have e0 : rnS tb 1 (k + 1) q = rnS tb 1 k (q + 1) := by
        show (if srC (tb q) = 1 then rnS tb 1 k (q + 1) else q) = _
        rw [if_pos c]
      rw [e0] at kz
      refine bX9_takes_82 hC ?_
      rw [va_up_self, h12]
      have hB := mv_byteAt (l := l) (ad := ad) (D := D) (ia := ia) (d := d) (s := s) h160 h1 hb (q := q) (by omega)
      have eb : byA tl tb q = tb q := by unfold byA; rw [if_pos (by omega)]
      rw [eb] at hB
      have hI := mv_inLt (l := l) (ad := ad) (D := D) (ia := ia) (d := d) (s := va_up s 20 v) (tb q)
      rw [srC_1.mp c] at hI
      refine ⟨_, _, hB, _, _, hI, fun h => absurd h (by decide), fun _ s8 e => ?_⟩
      rw [va_up_self, h12, nI_1, stI_up] at e
      subst e
      refine ih (q + 1) (setI v 12 (nI (q + 1))) (by omega) (by rw [sI_n _ _ (by decide)]; exact h1) hb (sI_s _ _ _) ?_
      rw [setI_I]
      exact kz
    · have e0 : rnS tb 1 (k + 1) q = q := by
        show (if srC (tb q) = 1 then rnS tb 1 k (q + 1) else q) = _
        rw [if_neg c]
      rw [e0, setI_id h12] at kz
      exact kz
/-- figures -/
theorem tak140 (h160 : tl ≤ 160) {f : Nat} : ∀ (k q : Nat) (v : OV), q + k = tl → f ≤ q → v.1 11 = nI tl → (∀ j, j < tl → v.2.2 10 j = tb j) → v.1 12 = nI q → v.1 13 = nI f → (q ≤ f + 2 → v.1 15 = vlN tb (q - f) f 0) → ∃ v2 : OV, (v2.1 12 = nI (rnS tb 2 k q) ∧ (rnS tb 2 k q ≤ f + 2 → v2.1 15 = vlN tb (rnS tb 2 k q - f) f 0) ∧ (∀ j, j ≠ 12 → j ≠ 15 → v2.1 j = v.1 j) ∧ v2.2.2 = v.2.2) ∧ ∀ (C : ZC) (Y : ZS), Zok ad D ia C (d + 1) cX9_takes 2 RX9 none → Z l ad D ia C none Y 140 [(0, .ref (ad 20 0))] [] (va_up s 20 v2) → Z l ad D ia C none Y 140 [(0, .ref (ad 20 0))] [] (va_up s 20 v) := by
  intro k
  induction k with
  | zero =>
    intro q v hk hf h1 hb h12 h13 h15
    exact ⟨v, ⟨h12, h15, fun _ _ _ => rfl, rfl⟩, fun C Y hC kz => kz⟩
  | succ k ih =>
    intro q v hk hf h1 hb h12 h13 h15
    by_cases c : srC (tb q) = 2
    · have e0 : rnS tb 2 (k + 1) q = rnS tb 2 k (q + 1) := by
        show (if srC (tb q) = 2 then rnS tb 2 k (q + 1) else q) = _
        rw [if_pos c]
      rw [e0]
      have hB := fun v1 (a1 : v1.1 11 = nI tl) (ab : ∀ j, j < tl → v1.2.2 10 j = tb j) => mv_byteAt (l := l) (ad := ad) (D := D) (ia := ia) (d := d) (s := s) (v := v1) (tb := tb) h160 a1 ab (q := q) (by omega)
      have eb : byA tl tb q = tb q := by unfold byA; rw [if_pos (by omega)]
      rw [eb] at hB
      have hI := mv_inD (l := l) (ad := ad) (D := D) (ia := ia) (d := d) (s := va_up s 20 v) (tb q)
      rw [srC_2.mp c] at hI
      have esub : nI q - nI f = nI (q - f) := pk_sub hf
      by_cases c2 : q < f + 2
      · obtain ⟨v2, ⟨a1, a2, a3, a4⟩, hz⟩ := ih (q + 1) (setI (setI v 15 (10 * v.1 15 + tb q - 48)) 12 (nI (q + 1))) (by omega) (by omega) (by rw [sI_n _ _ (by decide), sI_n _ _ (by decide)]; exact h1) hb (sI_s _ _ _) (by rw [sI_n _ _ (by decide), sI_n _ _ (by decide)]; exact h13) (fun _ => by
          rw [sI_n _ _ (by decide), sI_s, h15 (by omega), show q + 1 - f = (q - f) + 1 by omega, vlN_snoc, show f + (q - f) = q by omega])
        refine ⟨v2, ⟨a1, a2, fun j j1 j2 => by rw [a3 j j1 j2, sI_n _ _ j1, sI_n _ _ j2], a4⟩, fun C Y hC kz => bX9_takes_140 hC ?_⟩
        rw [va_up_self, h12]
        refine ⟨_, _, hB v h1 hb, _, _, hI, fun h => absurd h (by decide), fun _ => ?_⟩
        rw [va_up_self, h12, h13, esub]
        refine ⟨fun h => absurd h (nI_ge (a := q - f) (b := 2) (by omega) (by omega)), fun _ => ⟨_, _, hB v h1 hb, fun s19 e19 s20 e20 => ?_⟩⟩
        rw [stI_up] at e19
        subst e19
        rw [va_up_self, sI_n _ _ (by decide), h12, nI_1, stI_up] at e20
        subst e20
        exact hz C Y hC kz
      · obtain ⟨v2, ⟨a1, a2, a3, a4⟩, hz⟩ := ih (q + 1) (setI v 12 (nI (q + 1))) (by omega) (by omega) (by rw [sI_n _ _ (by decide)]; exact h1) hb (sI_s _ _ _) (by rw [sI_n _ _ (by decide)]; exact h13) (fun h => by omega)
        refine ⟨v2, ⟨a1, a2, fun j j1 j2 => by rw [a3 j j1 j2, sI_n _ _ j1], a4⟩, fun C Y hC kz => bX9_takes_140 hC ?_⟩
        rw [va_up_self, h12]
        refine ⟨_, _, hB v h1 hb, _, _, hI, fun h => absurd h (by decide), fun _ => ?_⟩
        rw [va_up_self, h12, h13, esub]
        refine ⟨fun _ s14 e14 s15 e15 => ?_, fun h => absurd (nI_le (a := 2) (b := q - f) (by omega) (by omega)) h⟩
        rw [stI_up, setI_id rfl] at e14
        subst e14
        rw [va_up_self, h12, nI_1, stI_up] at e15
        subst e15
        exact hz C Y hC kz
    · have e0 : rnS tb 2 (k + 1) q = q := by
        show (if srC (tb q) = 2 then rnS tb 2 k (q + 1) else q) = _
        rw [if_neg c]
      rw [e0]
      exact ⟨v, ⟨h12, h15, fun _ _ _ => rfl, rfl⟩, fun C Y hC kz => kz⟩
theorem mv_takes0 (h160 : tl ≤ 160) (hby : ∀ j, j < tl → rng (tb j) 0 127) {q0 : Nat} (hq : q0 ≤ tl) (h1 : v.1 11 = nI tl) (hb : ∀ j, j < tl → v.2.2 10 j = tb j) (h16 : v.1 16 = 0) (h12 : v.1 12 = nI q0) : ∃ v2, Ev l ad D ia (d + 1) mX9_takes [.ref (ad 20 0)] (va_up s 20 v) none (va_up s 20 v2) ∧ MT v2 tl tb (tkE tl tb q0) ∧ FM v v2 := by
  have etk : tk tl tb q0 = tkZ tl tb (skp tb (tl - q0) q0) := rfl
  unfold tkE
  rw [etk]
  have hsk := skp_le tb (tl - q0) q0
  have hst := skp_stop (tb := tb) (tl - q0) q0 (show q0 + (tl - q0) = tl by omega)
  have go8 := fun (C : ZC) (Y : ZS) (hC : Zok ad D ia C (d + 1) cX9_takes 2 RX9 none) => tak8 (l := l) (s := s) (tb := tb) (Y := Y) hC h160 (tl - q0) q0 v (by omega) h1 hb h12
  generalize skp tb (tl - q0) q0 = f at hsk hst go8 ⊢
  have u11 : (setI (setI v 12 (nI f)) 13 (nI f)).1 11 = nI tl := by rw [sI_n _ _ (by decide), sI_n _ _ (by decide)]; exact h1
  have u12 : (setI (setI v 12 (nI f)) 13 (nI f)).1 12 = nI f := by rw [sI_n _ _ (by decide), sI_s]
  have u13 : (setI (setI v 12 (nI f)) 13 (nI f)).1 13 = nI f := sI_s _ _ _
  have u16 : (setI (setI v 12 (nI f)) 13 (nI f)).1 16 = 0 := by rw [sI_n _ _ (by decide), sI_n _ _ (by decide)]; exact h16
  have ub : ∀ j, j < tl → (setI (setI v 12 (nI f)) 13 (nI f)).2.2 10 j = tb j := hb
  have uF : FM v (setI (setI v 12 (nI f)) 13 (nI f)) := (FM.I v _ (by decide)).tr (FM.I _ _ (by decide))
  have h0 : ∀ {A B : Prop}, A → (((va_up s 20 v 20).1 16) ≤ 0 → A) ∧ (¬ ((va_up s 20 v 20).1 16) ≤ 0 → B) := fun a => ⟨fun _ => a, fun q => absurd (by rw [va_up_self, h16]; decide) q⟩
  have hne : ¬ byA tl tb f = 32 := by
    unfold byA
    by_cases c : f < tl
    · rw [if_pos c]
      exact hst c
    · rw [if_neg c]
      decide
  have w11 : (setI v 12 (nI f)).1 11 = nI tl := by rw [sI_n _ _ (by decide)]; exact h1
  have hB1 := mv_byteAt (l := l) (ad := ad) (D := D) (ia := ia) (d := d) (s := s) (tb := tb) h160 w11 hb (q := f) (by omega)
  have hB2 := mv_byteAt (l := l) (ad := ad) (D := D) (ia := ia) (d := d) (s := s) (tb := tb) h160 u11 ub (q := f) (by omega)
  have e5' : ∀ s5 : ZS, s5 = stI (va_up s 20 (setI v 12 (nI f))) 20 13 ((va_up s 20 (setI v 12 (nI f)) 20).1 12) → s5 = va_up s 20 (setI (setI v 12 (nI f)) 13 (nI f)) := fun s5 e => by
    rw [va_up_self, sI_s, stI_up] at e
    exact e
  generalize setI (setI v 12 (nI f)) 13 (nI f) = u at u11 u12 u13 u16 ub uF hB2 e5'
  by_cases c : f < tl
  · obtain ⟨n, hn0, hn, en⟩ := hby f c
    have hbt : byA tl tb f = tb f := by unfold byA; rw [if_pos c]
    rw [hbt] at hB1 hB2 hne
    have hge : (0 : Int32) ≤ tb f := by rw [en]; exact nI_le (a := 0) (b := n) (Nat.zero_le n) (by omega)
    have hIL := mv_inLt (l := l) (ad := ad) (D := D) (ia := ia) (d := d) (s := va_up s 20 u) (tb f)
    have hID := mv_inD (l := l) (ad := ad) (D := D) (ia := ia) (d := d) (s := va_up s 20 u) (tb f)
    by_cases c1 : srC (tb f) = 1
    · have er : rnS tb 1 (tl - f) f = rnS tb 1 (tl - (f + 1)) (f + 1) := by
        rw [show tl - f = (tl - (f + 1)) + 1 by omega]
        show (if srC (tb f) = 1 then rnS tb 1 (tl - (f + 1)) (f + 1) else f) = _
        rw [if_pos c1]
      have et : tkZ tl tb f = (1, f, rnS tb 1 (tl - (f + 1)) (f + 1)) := by unfold tkZ; rw [if_pos c, if_pos c1]
      rw [et, if_neg (by show ¬ (1 : Nat) = 4; decide : ¬ ((1 : Nat), f, rnS tb 1 (tl - (f + 1)) (f + 1)).1 = 4), ← er]
      have hle := rnS_le tb 1 (tl - f) f
      have hstp := rnS_stop (tb := tb) (z := 1) (tl - f) f (show f + (tl - f) = tl by omega)
      have v11 : (setI (setI u 14 1) 12 (nI (rnS tb 1 (tl - f) f))).1 11 = nI tl := by rw [sI_n _ _ (by decide), sI_n _ _ (by decide)]; exact u11
      rw [srC_1.mp c1] at hIL
      refine ⟨setI (setI u 14 1) 12 (nI (rnS tb 1 (tl - f) f)), eX9_takes (fun C hC => h0 (go8 C _ hC (bX9_takes_8 hC ?_))), ⟨⟨v11, ub⟩, ?_, ?_, ?_, ?_, ?_⟩, uF.tr ((FM.I _ _ (by decide)).tr (FM.I _ _ (by decide)))⟩
      · rw [va_up_self, sI_s]
        refine ⟨_, _, hB1, fun _ s5 e5 => ?_, fun q => absurd q hne⟩
        have e5 := e5' s5 e5
        subst e5
        rw [va_up_self, u12]
        refine ⟨_, _, hB2, fun _ => ⟨_, _, hIL, fun q => absurd q (by decide), fun _ s28 e28 => ?_⟩, fun q => absurd hge q⟩
        rw [stI_up] at e28
        subst e28
        refine tak82 (tb := tb) hC h160 (tl - f) f (setI u 14 1) (by omega) (by rw [sI_n _ _ (by decide)]; exact u11) ub (by rw [sI_n _ _ (by decide)]; exact u12) ?_
        have hB3 := mv_byteAt (l := l) (ad := ad) (D := D) (ia := ia) (d := d) (s := s) (tb := tb) h160 v11 ub (q := rnS tb 1 (tl - f) f) (by omega)
        have hIL3 := mv_inLt (l := l) (ad := ad) (D := D) (ia := ia) (d := d) (s := va_up s 20 (setI (setI u 14 1) 12 (nI (rnS tb 1 (tl - f) f)))) (byA tl tb (rnS tb 1 (tl - f) f))
        have hf3 : isL (byA tl tb (rnS tb 1 (tl - f) f)) = false := by
          unfold byA
          by_cases c3 : rnS tb 1 (tl - f) f < tl
          · rw [if_pos c3]
            exact bool_f (fun q => hstp c3 (srC_1.mpr q))
          · rw [if_neg c3]
            decide
        rw [hf3] at hIL3
        refine bX9_takes_82 hC ?_
        rw [va_up_self, sI_s]
        exact ⟨_, _, hB3, _, _, hIL3, fun _ => ⟨rfl, rfl⟩, fun q => absurd (by decide) q⟩
      · rw [sI_n _ _ (by decide), sI_n _ _ (by decide)]
        exact u16
      · rw [sI_n _ _ (by decide), sI_s]
        rfl
      · rw [sI_n _ _ (by decide), sI_n _ _ (by decide)]
        exact u13
      · exact sI_s _ _ _
      · intro q
        exact absurd q (by show ¬ (1 : Nat) = 2; decide)
    · have nL : isL (tb f) = false := bool_f (fun q => c1 (srC_1.mpr q))
      rw [nL] at hIL
      by_cases c2 : srC (tb f) = 2
      · have er : rnS tb 2 (tl - f) f = rnS tb 2 (tl - (f + 1)) (f + 1) := by
          rw [show tl - f = (tl - (f + 1)) + 1 by omega]
          show (if srC (tb f) = 2 then rnS tb 2 (tl - (f + 1)) (f + 1) else f) = _
          rw [if_pos c2]
        have et : tkZ tl tb f = (if rnS tb 2 (tl - (f + 1)) (f + 1) ≤ f + 2 then 2 else 4, f, rnS tb 2 (tl - (f + 1)) (f + 1)) := by unfold tkZ; rw [if_pos c, if_neg c1, if_pos c2]
        rw [et, ← er]
        have hle := rnS_le tb 2 (tl - f) f
        have hstp := rnS_stop (tb := tb) (z := 2) (tl - f) f (show f + (tl - f) = tl by omega)
        rw [srC_2.mp c2] at hID
        obtain ⟨v2, ⟨a1, a2, a3, a4⟩, hz⟩ := tak140 (l := l) (ad := ad) (D := D) (ia := ia) (d := d) (s := s) (tb := tb) h160 (f := f) (tl - f) f (setI (setI u 14 2) 15 0) (by omega) (Nat.le_refl f) (by rw [sI_n _ _ (by decide), sI_n _ _ (by decide)]; exact u11) ub (by rw [sI_n _ _ (by decide), sI_n _ _ (by decide)]; exact u12) (by rw [sI_n _ _ (by decide), sI_n _ _ (by decide)]; exact u13) (fun _ => by rw [sI_s, Nat.sub_self]; rfl)
        generalize rnS tb 2 (tl - f) f = e at a1 a2 hle hstp ⊢
        have b11 : v2.1 11 = nI tl := by rw [a3 11 (by decide) (by decide), sI_n _ _ (by decide), sI_n _ _ (by decide)]; exact u11
        have b13 : v2.1 13 = nI f := by rw [a3 13 (by decide) (by decide), sI_n _ _ (by decide), sI_n _ _ (by decide)]; exact u13
        have b14 : v2.1 14 = nI 2 := by rw [a3 14 (by decide) (by decide), sI_n _ _ (by decide), sI_s]; rfl
        have b16 : v2.1 16 = 0 := by rw [a3 16 (by decide) (by decide), sI_n _ _ (by decide), sI_n _ _ (by decide)]; exact u16
        have bb : ∀ j, j < tl → v2.2.2 10 j = tb j := fun j hj => by rw [a4]; exact ub j hj
        have bF : FM v v2 := uF.tr ⟨fun k hk => by rw [a3 k (by omega) (by omega), sI_n _ _ (by omega), sI_n _ _ (by omega)], a4⟩
        have hB3 := mv_byteAt (l := l) (ad := ad) (D := D) (ia := ia) (d := d) (s := s) (tb := tb) h160 b11 bb (q := e) (by omega)
        have hID3 := mv_inD (l := l) (ad := ad) (D := D) (ia := ia) (d := d) (s := va_up s 20 v2) (byA tl tb e)
        have hf3 : isDg (byA tl tb e) = false := by
          unfold byA
          by_cases c3 : e < tl
          · rw [if_pos c3]
            exact bool_f (fun q => hstp c3 (srC_2.mpr q))
          · rw [if_neg c3]
            decide
        rw [hf3] at hID3
        have esub : nI e - nI f = nI (e - f) := pk_sub (by omega)
        have fin : ∀ (C : ZC) (Y : ZS), Zok ad D ia C (d + 1) cX9_takes 2 RX9 none → Z l ad D ia C none Y 140 [(0, .ref (ad 20 0))] [] (va_up s 20 v2) → Z l ad D ia C none Y 8 [(0, .ref (ad 20 0))] [] (va_up s 20 v) := fun C Y hC kz => go8 C Y hC (bX9_takes_8 hC (by
          rw [va_up_self, sI_s]
          refine ⟨_, _, hB1, fun _ s5 e5 => ?_, fun q => absurd q hne⟩
          have e5 := e5' s5 e5
          subst e5
          rw [va_up_self, u12]
          refine ⟨_, _, hB2, fun _ => ⟨_, _, hIL, fun _ => ⟨_, _, hID, fun q => absurd q (by decide), fun _ s26 e26 s27 e27 => ?_⟩, fun q => absurd (by decide) q⟩, fun q => absurd hge q⟩
          rw [stI_up] at e26
          subst e26
          rw [stI_up] at e27
          subst e27
          exact hz C Y hC kz))
        by_cases c3 : e ≤ f + 2
        · rw [if_pos c3, if_neg (by show ¬ (2 : Nat) = 4; decide : ¬ ((2 : Nat), f, e).1 = 4)]
          refine ⟨v2, eX9_takes (fun C hC => h0 (fin C _ hC (bX9_takes_140 hC ?_))), ⟨⟨b11, bb⟩, b16, b14, b13, a1, fun _ => a2 c3⟩, bF⟩
          rw [va_up_self, a1]
          refine ⟨_, _, hB3, _, _, hID3, fun _ => ?_, fun q => absurd (by decide) q⟩
          rw [va_up_self, a1, b13, esub]
          exact ⟨fun q => absurd q (nI_nlt (a := 2) (b := e - f) (by omega) (by decide)), fun _ => ⟨_, mv_need1 (by decide) _, rfl, rfl⟩⟩
        · rw [if_neg c3, if_pos (by rfl : ((4 : Nat), f, e).1 = 4)]
          refine ⟨setI (setI v2 16 1) 17 (v2.1 13), eX9_takes (fun C hC => h0 (fin C _ hC (bX9_takes_140 hC ?_))), ⟨⟨?_, bb⟩, ?_, ?_⟩, bF.tr ((FM.I _ _ (by decide)).tr (FM.I _ _ (by decide)))⟩
          · rw [va_up_self, a1]
            refine ⟨_, _, hB3, _, _, hID3, fun _ => ?_, fun q => absurd (by decide) q⟩
            rw [va_up_self, a1, b13, esub]
            refine ⟨fun _ => ⟨_, mv_need0 b16 1, rfl, ?_⟩, fun q => absurd (nI_lt (a := 2) (b := e - f) (by omega) (by omega)) q⟩
            rw [b13]
          · rw [sI_n _ _ (by decide), sI_n _ _ (by decide)]
            exact b11
          · rw [sI_n _ _ (by decide), sI_s]
            rfl
          · rw [sI_s]
            exact b13
      · have nD : isDg (tb f) = false := bool_f (fun q => c2 (srC_2.mpr q))
        rw [nD] at hID
        have e34 := srC_3 c1 c2
        have et : tkZ tl tb f = (srC (tb f), f, f + 1) := by unfold tkZ; rw [if_pos c, if_neg c1, if_neg c2]
        rw [et, e34]
        by_cases c3 : tb f = 59
        · rw [if_pos c3, if_neg (by show ¬ (3 : Nat) = 4; decide : ¬ ((3 : Nat), f, f + 1).1 = 4)]
          refine ⟨setI (setI u 14 3) 12 (nI (f + 1)), eX9_takes (fun C hC => h0 (go8 C _ hC (bX9_takes_8 hC ?_))), ⟨⟨?_, ub⟩, ?_, ?_, ?_, ?_, ?_⟩, uF.tr ((FM.I _ _ (by decide)).tr (FM.I _ _ (by decide)))⟩
          · rw [va_up_self, sI_s]
            refine ⟨_, _, hB1, fun _ s5 e5 => ?_, fun q => absurd q hne⟩
            have e5 := e5' s5 e5
            subst e5
            rw [va_up_self, u12]
            refine ⟨_, _, hB2, fun _ => ⟨_, _, hIL, fun _ => ⟨_, _, hID, fun _ s18 e18 => ?_, fun q => absurd (by decide) q⟩, fun q => absurd (by decide) q⟩, fun q => absurd hge q⟩
            rw [stI_up] at e18
            subst e18
            refine ⟨fun q => absurd c3 q, fun _ => ⟨_, mv_need1 (by decide) _, fun s25 e25 => ⟨rfl, ?_⟩⟩⟩
            rw [va_up_self, sI_n _ _ (by decide), u12, nI_1, stI_up] at e25
            exact e25.symm
          · rw [sI_n _ _ (by decide), sI_n _ _ (by decide)]
            exact u11
          · rw [sI_n _ _ (by decide), sI_n _ _ (by decide)]
            exact u16
          · rw [sI_n _ _ (by decide), sI_s]
            rfl
          · rw [sI_n _ _ (by decide), sI_n _ _ (by decide)]
            exact u13
          · exact sI_s _ _ _
          · intro q
            exact absurd q (by show ¬ (3 : Nat) = 2; decide)
        · rw [if_neg c3, if_pos (by rfl : ((4 : Nat), f, f + 1).1 = 4)]
          refine ⟨setI (setI (setI (setI u 14 3) 16 1) 17 (nI f)) 12 (nI (f + 1)), eX9_takes (fun C hC => h0 (go8 C _ hC (bX9_takes_8 hC ?_))), ⟨⟨?_, ub⟩, ?_, ?_⟩, uF.tr ((FM.I _ _ (by decide)).tr ((FM.I _ _ (by decide)).tr ((FM.I _ _ (by decide)).tr (FM.I _ _ (by decide)))))⟩
          · rw [va_up_self, sI_s]
            refine ⟨_, _, hB1, fun _ s5 e5 => ?_, fun q => absurd q hne⟩
            have e5 := e5' s5 e5
            subst e5
            rw [va_up_self, u12]
            refine ⟨_, _, hB2, fun _ => ⟨_, _, hIL, fun _ => ⟨_, _, hID, fun _ s18 e18 => ?_, fun q => absurd (by decide) q⟩, fun q => absurd (by decide) q⟩, fun q => absurd hge q⟩
            rw [stI_up] at e18
            subst e18
            have g13 : (setI u 14 3).1 13 = nI f := by rw [sI_n _ _ (by decide)]; exact u13
            have hN := mv_need0 (l := l) (ad := ad) (D := D) (ia := ia) (d := d) (s := s) (v := setI u 14 3) (by rw [sI_n _ _ (by decide)]; exact u16) 1
            rw [g13] at hN
            refine ⟨fun _ => ⟨_, hN, fun s22 e22 => ⟨rfl, ?_⟩⟩, fun q => absurd q c3⟩
            rw [va_up_self, sI_n _ _ (by decide), sI_n _ _ (by decide), sI_n _ _ (by decide), u12, nI_1, stI_up] at e22
            exact e22.symm
          · rw [sI_n _ _ (by decide), sI_n _ _ (by decide), sI_n _ _ (by decide), sI_n _ _ (by decide)]
            exact u11
          · rw [sI_n _ _ (by decide), sI_n _ _ (by decide), sI_s]
            rfl
          · rw [sI_n _ _ (by decide), sI_s]
  · have et : tkZ tl tb f = (0, f, f) := by unfold tkZ; rw [if_neg c]
    rw [et, if_neg (by show ¬ (0 : Nat) = 4; decide : ¬ ((0 : Nat), f, f).1 = 4)]
    have hbt : byA tl tb f = -1 := by unfold byA; rw [if_neg c]
    rw [hbt] at hB1 hB2 hne
    refine ⟨setI u 14 0, eX9_takes (fun C hC => h0 (go8 C _ hC (bX9_takes_8 hC ?_))), ⟨⟨?_, ub⟩, ?_, ?_, ?_, ?_, ?_⟩, uF.tr (FM.I _ _ (by decide))⟩
    · rw [va_up_self, sI_s]
      refine ⟨_, _, hB1, fun _ s5 e5 => ?_, fun q => absurd q hne⟩
      have e5 := e5' s5 e5
      subst e5
      rw [va_up_self, u12]
      refine ⟨_, _, hB2, fun q => absurd q (by decide), fun _ s29 e29 => ⟨rfl, ?_⟩⟩
      rw [stI_up] at e29
      exact e29.symm
    · rw [sI_n _ _ (by decide)]
      exact u11
    · rw [sI_n _ _ (by decide)]
      exact u16
    · rw [sI_s]
      rfl
    · rw [sI_n _ _ (by decide)]
      exact u13
    · rw [sI_n _ _ (by decide)]
      exact u12
    · intro q
      exact absurd q (by show ¬ (0 : Nat) = 2; decide)
theorem mv_takes (h160 : tl ≤ 160) (hby : ∀ j, j < tl → rng (tb j) 0 127) {r : TS} (ho : okT tl r) (h : MT v tl tb r) : ∃ v2, Ev l ad D ia (d + 1) mX9_takes [.ref (ad 20 0)] (va_up s 20 v) none (va_up s 20 v2) ∧ MT v2 tl tb (nxt tl tb r) ∧ FM v v2 := by
  cases r with
  | inl e =>
    refine ⟨v, eX9_takes (fun C hC => ⟨fun q => absurd q ?_, fun _ => ⟨rfl, rfl⟩⟩), h, FM.rf v⟩
    rw [va_up_self, h.2.1]
    exact nI_nle (by have := (okE ho).1; omega) (by have := (okE ho).2; omega)
  | inr t => exact mv_takes0 h160 hby ho.2.2.1 h.1.1 h.1.2 h.2.1 h.2.2.2.2.1
end TXM
