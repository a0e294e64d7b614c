/-! THE TEXT, the class's side: tokens -/
theorem sI_s (v : OV) (k : Nat) (x : Int32) : (setI v k x).1 k = x := va_up_self _ _ _
theorem sI_n (v : OV) {k j : Nat} (x : Int32) (h : j ≠ k) : (setI v k x).1 j = v.1 j := va_up_ne _ _ h
theorem setI_id {v : OV} {k : Nat} {x : Int32} (h : v.1 k = x) : setI v k x = v := by
  subst h
  unfold setI
  rw [up_id]
theorem setI_I (v : OV) (k : Nat) (x y : Int32) : setI (setI v k x) k y = setI v k y := by
  unfold setI
  dsimp only
  rw [up_up]
section TXC
variable {l : Launch} {ad : ZA} {D : va_G} {ia : Nat → ClassId} {d : Nat} {s : ZS} {tl : Nat} {tb : Nat → Int32}
theorem ev_sortOf (c : Int32) : Ev l ad D ia d mX7_sortOf [.int c] s (some (.int (nI (srC c)))) s := by
  have e97 : (97 : Int32).toInt = 97 := by decide
  have e122 : (122 : Int32).toInt = 122 := by decide
  have e48 : (48 : Int32).toInt = 48 := by decide
  have e57 : (57 : Int32).toInt = 57 := by decide
  have hL : isL c = decide (97 ≤ c.toInt ∧ c.toInt ≤ 122) := rfl
  have hD : isDg c = decide (48 ≤ c.toInt ∧ c.toInt ≤ 57) := rfl
  have k4 : isL c = false → isDg c = false → ((¬ c = 59 → (some (Value.int (nI (srC c))) = some (.int 4) ∧ s = s)) ∧ (c = 59 → (some (Value.int (nI (srC c))) = some (.int 3) ∧ s = s))) := by
    intro a b
    have e : srC c = if c = 59 then 3 else 4 := by simp [srC, a, b]
    exact ⟨fun h => ⟨by rw [e, if_neg h]; rfl, rfl⟩, fun h => ⟨by rw [e, if_pos h]; rfl, rfl⟩⟩
  have k2 : isL c = false → isDg c = true → (some (Value.int (nI (srC c))) = some (.int 2) ∧ s = s) := by
    intro a b
    have e : srC c = 2 := by simp [srC, a, b]
    exact ⟨by rw [e]; rfl, rfl⟩
  refine eX7_sortOf ⟨fun h1 => ⟨fun h2 => ?_, fun h2 => ⟨fun h3 => ?_, fun h3 => ?_⟩⟩, fun h1 => ⟨fun h2 => ⟨fun h3 => ?_, fun h3 => ⟨fun h4 => ?_, fun h4 => ?_⟩⟩, fun h2 => ?_⟩⟩
  · rw [Int32.lt_iff_toInt_lt, e97] at h1
    rw [Int32.lt_iff_toInt_lt, e48] at h2
    exact k4 (by rw [hL]; exact decide_eq_false (by omega)) (by rw [hD]; exact decide_eq_false (by omega))
  · rw [Int32.lt_iff_toInt_lt, e97] at h1
    rw [Int32.lt_iff_toInt_lt, e57] at h3
    exact k4 (by rw [hL]; exact decide_eq_false (by omega)) (by rw [hD]; exact decide_eq_false (by omega))
  · rw [Int32.lt_iff_toInt_lt, e97] at h1
    rw [Int32.lt_iff_toInt_lt, e48] at h2
    rw [Int32.lt_iff_toInt_lt, e57] at h3
    exact k2 (by rw [hL]; exact decide_eq_false (by omega)) (by rw [hD]; exact decide_eq_true (by omega))
  · rw [Int32.lt_iff_toInt_lt, e122] at h2
    rw [Int32.lt_iff_toInt_lt, e48] at h3
    exact k4 (by rw [hL]; exact decide_eq_false (by omega)) (by rw [hD]; exact decide_eq_false (by omega))
  · rw [Int32.lt_iff_toInt_lt, e122] at h2
    rw [Int32.lt_iff_toInt_lt, e57] at h4
    exact k4 (by rw [hL]; exact decide_eq_false (by omega)) (by rw [hD]; exact decide_eq_false (by omega))
  · rw [Int32.lt_iff_toInt_lt, e122] at h2
    rw [Int32.lt_iff_toInt_lt, e57] at h4
    omega
  · rw [Int32.lt_iff_toInt_lt, e97] at h1
    rw [Int32.lt_iff_toInt_lt, e122] at h2
    have e : srC c = 1 := by
      have a : isL c = true := by rw [hL]; exact decide_eq_true (by omega)
      simp [srC, a]
    exact ⟨by rw [e]; rfl, rfl⟩
theorem adv8 {C : ZC} {X : Option Value} {Y : ZS} (hC : Zok ad D ia C (d + 1) cX7_advance 2 RX7 none) (h160 : tl ≤ 160) : ∀ (k q : Nat) (v : OV), q + k = tl → v.1 1 = nI tl → v.1 3 = nI q → (∀ j, j < tl → v.2.2 0 j = tb j) → Z l ad D ia C X Y 74 [(0, .ref (ad 16 0))] [.int (if skp tb k q < tl then nI (srC (tb (skp tb k q))) else 0), .ref (ad 16 0)] (va_up s 16 (setI v 3 (nI (skp tb k q)))) → Z l ad D ia C X Y 8 [(0, .ref (ad 16 0))] [] (va_up s 16 v) := by
  intro k
  induction k with
  | zero =>
    intro q v hk h1 h3 hb kz
    have e16 : va_up s 16 v 16 = v := va_up_self _ _ _
    have e0 : skp tb 0 q = q := rfl
    rw [e0, if_neg (by omega), setI_id h3] at kz
    refine bX7_advance_8 hC ?_
    rw [e16, h1, h3]
    exact ⟨fun h => ⟨fun _ => kz, fun h2 => absurd h h2⟩, fun h => absurd (nI_le (by omega) (by omega)) h⟩
  | succ k ih =>
    intro q v hk h1 h3 hb kz
    have e16 : va_up s 16 v 16 = v := va_up_self _ _ _
    have hn : ¬ nI tl ≤ nI q := nI_ge (by omega) (by omega)
    have hin : vp_in (nI q) 160 := vp_in_nI (by omega) (by omega)
    refine bX7_advance_8 hC ?_
    rw [e16, h1, h3, nI_clamp (show q < 2 ^ 31 by omega), hb q (by omega)]
    by_cases c : tb q = 32
    · have e0 : skp tb (k + 1) q = skp tb k (q + 1) := by
        show (if tb q = 32 then skp tb k (q + 1) else q) = _
        rw [if_pos c]
      rw [e0] at kz
      refine ⟨fun h => absurd h hn, fun _ => ⟨hin, fun h => absurd c h, fun _ s14 e => ?_⟩⟩
      rw [stI_up, nI_1] at e
      subst e
      refine ih (q + 1) (setI v 3 (nI (q + 1))) (by omega) (by rw [sI_n _ _ (by decide)]; exact h1) (sI_s _ _ _) hb ?_
      rw [setI_I]
      exact kz
    · have e0 : skp tb (k + 1) q = q := by
        show (if tb q = 32 then skp tb k (q + 1) else q) = _
        rw [if_neg c]
      rw [e0, if_pos (by omega), setI_id h3] at kz
      exact ⟨fun h => absurd h hn, fun _ => ⟨hin, fun _ => ⟨fun h => absurd h hn, fun _ => ⟨hin, _, _, ev_sortOf _, kz⟩⟩, fun h => absurd h c⟩⟩
theorem adv127 {C : ZC} {X : Option Value} {Y : ZS} (hC : Zok ad D ia C (d + 1) cX7_advance 2 RX7 none) (h160 : tl ≤ 160) {z : Nat} (hz : z ≤ 4) : ∀ (k q : Nat) (v : OV), q + k = tl → v.1 1 = nI tl → v.1 2 = nI z → v.1 4 = nI q → (∀ j, j < tl → v.2.2 0 j = tb j) → Z l ad D ia C X Y 174 [(0, .ref (ad 16 0))] [] (va_up s 16 (setI v 4 (nI (rnS tb z k q)))) → Z l ad D ia C X Y 127 [(0, .ref (ad 16 0)), (1, .int 1)] [] (va_up s 16 v) := by
  intro k
  induction k with
  | zero =>
    intro q v hk h1 h2 h4 hb kz
    have e16 : va_up s 16 v 16 = v := va_up_self _ _ _
    have e0 : rnS tb z 0 q = q := rfl
    rw [e0, setI_id h4] at kz
    refine bX7_advance_127 hC ?_
    rw [e16, h1, h4]
    exact ⟨fun h => absurd h (by decide), fun _ => ⟨fun _ => kz, fun h => absurd (nI_le (by omega) (by omega)) h⟩⟩
  | succ k ih =>
    intro q v hk h1 h2 h4 hb kz
    have e16 : va_up s 16 v 16 = v := va_up_self _ _ _
    have hn : ¬ nI tl ≤ nI q := nI_ge (by omega) (by omega)
    have hin : vp_in (nI q) 160 := vp_in_nI (by omega) (by omega)
    have hs := srC_pos (tb q)
    refine bX7_advance_127 hC ?_
    rw [e16, h1, h4, nI_clamp (show q < 2 ^ 31 by omega), hb q (by omega)]
    refine ⟨fun h => absurd h (by decide), fun _ => ⟨fun h => absurd h hn, fun _ => ⟨hin, nI (srC (tb q)), va_up s 16 v, ev_sortOf _, ?_⟩⟩⟩
    rw [e16, h2, h4]
    by_cases c : srC (tb q) = z
    · have e0 : rnS tb z (k + 1) q = rnS tb z k (q + 1) := by
        show (if srC (tb q) = z then rnS tb z k (q + 1) else q) = _
        rw [if_pos c]
      rw [e0] at kz
      refine ⟨fun h => absurd (by rw [c]) h, fun _ s8 e => ?_⟩
      rw [stI_up, nI_1] at e
      subst e
      refine ih (q + 1) (setI v 4 (nI (q + 1))) (by omega) (by rw [sI_n _ _ (by decide)]; exact h1) (by rw [sI_n _ _ (by decide)]; exact h2) (sI_s _ _ _) hb ?_
      rw [setI_I]
      exact kz
    · have e0 : rnS tb z (k + 1) q = q := by
        show (if srC (tb q) = z then rnS tb z k (q + 1) else q) = _
        rw [if_neg c]
      rw [e0, setI_id h4] at kz
      exact ⟨fun _ => kz, fun h => absurd ((nI_eq (by omega) (by omega)).mp h) c⟩
theorem adv74 {C : ZC} {X : Option Value} {Y : ZS} (hC : Zok ad D ia C (d + 1) cX7_advance 2 RX7 none) (h160 : tl ≤ 160) {f z : Nat} {v : OV} (hz : z ≤ 4) (hf : f ≤ tl) (h1 : v.1 1 = nI tl) (h3 : v.1 3 = nI f) (kz : Z l ad D ia C X Y 127 [(0, .ref (ad 16 0)), (1, .int (if z = 1 ∨ z = 2 then 1 else 0))] [] (va_up s 16 (setI (setI v 2 (nI z)) 4 (nI (if f < tl then f + 1 else f))))) : Z l ad D ia C X Y 74 [(0, .ref (ad 16 0))] [.int (nI z), .ref (ad 16 0)] (va_up s 16 v) := by
  have q1 : (setI v 2 (nI z)).1 1 = nI tl := by rw [sI_n _ _ (by decide)]; exact h1
  have q3 : (setI v 2 (nI z)).1 3 = nI f := by rw [sI_n _ _ (by decide)]; exact h3
  have q2 : ∀ x, (setI (setI v 2 (nI z)) 4 x).1 2 = nI z := fun x => by rw [sI_n _ _ (by decide), sI_s]
  refine bX7_advance_74 hC (fun s1 e1 => ?_)
  rw [stI_up] at e1
  subst e1
  have e16 : va_up s 16 (setI v 2 (nI z)) 16 = setI v 2 (nI z) := va_up_self _ _ _
  rw [e16, q1, q3]
  have fin : ∀ x : Int32, Z l ad D ia C X Y 127 [(0, .ref (ad 16 0)), (1, .int (if z = 1 ∨ z = 2 then 1 else 0))] [] (va_up s 16 (setI (setI v 2 (nI z)) 4 x)) → (((va_up s 16 (setI (setI v 2 (nI z)) 4 x) 16).1 2) = 1 → Z l ad D ia C X Y 127 [(0, .ref (ad 16 0)), (1, .int 1)] [] (va_up s 16 (setI (setI v 2 (nI z)) 4 x))) ∧ (¬ ((va_up s 16 (setI (setI v 2 (nI z)) 4 x) 16).1 2) = 1 → ((¬ ((va_up s 16 (setI (setI v 2 (nI z)) 4 x) 16).1 2) = 2 → Z l ad D ia C X Y 127 [(0, .ref (ad 16 0)), (1, .int 0)] [] (va_up s 16 (setI (setI v 2 (nI z)) 4 x))) ∧ (((va_up s 16 (setI (setI v 2 (nI z)) 4 x) 16).1 2) = 2 → Z l ad D ia C X Y 127 [(0, .ref (ad 16 0)), (1, .int 1)] [] (va_up s 16 (setI (setI v 2 (nI z)) 4 x))))) := by
    intro x kx
    rw [va_up_self, q2]
    have i1 : nI z = 1 ↔ z = 1 := nI_eq (a := z) (b := 1) (by omega) (by omega)
    have i2 : nI z = 2 ↔ z = 2 := nI_eq (a := z) (b := 2) (by omega) (by omega)
    refine ⟨fun h => ?_, fun h => ⟨fun h2 => ?_, fun h2 => ?_⟩⟩
    · rw [if_pos (Or.inl (i1.mp h))] at kx
      exact kx
    · rw [if_neg (fun q => q.elim (fun q => h (i1.mpr q)) (fun q => h2 (i2.mpr q)))] at kx
      exact kx
    · rw [if_pos (Or.inr (i2.mp h2))] at kx
      exact kx
  refine ⟨fun h s3 e3 => ?_, fun h s6 e6 => ?_⟩
  · have c : ¬ f < tl := fun q => absurd h (nI_ge q (by omega))
    rw [stI_up] at e3
    subst e3
    rw [if_neg c] at kz
    exact fin _ kz
  · have c : f < tl := by
      rcases Nat.lt_or_ge f tl with q | q
      · exact q
      · exact absurd (nI_le q (by omega)) h
    rw [stI_up, nI_1] at e6
    subst e6
    rw [if_pos c] at kz
    exact fin _ kz
theorem ev_advance (h160 : tl ≤ 160) {q : Nat} (hq : q ≤ tl) (h1 : (s 16).1 1 = nI tl) (hb : ∀ j, j < tl → (s 16).2.2 0 j = tb j) (h4 : (s 16).1 4 = nI q) : ∃ v, Ev l ad D ia (d + 1) mX7_advance [.ref (ad 16 0)] s none (va_up s 16 v) ∧ v.1 1 = nI tl ∧ (∀ j, j < tl → v.2.2 0 j = tb j) ∧ v.1 2 = nI (tk tl tb q).1 ∧ v.1 3 = nI (tk tl tb q).2.1 ∧ v.1 4 = nI (tk tl tb q).2.2 := by
  have hsk := skp_le tb (tl - q) q
  have etk : tk tl tb q = tkZ tl tb (skp tb (tl - q) q) := rfl
  rw [etk]
  generalize hf : skp tb (tl - q) q = f at hsk ⊢
  have go : ∀ {C : ZC} {Y : ZS}, Zok ad D ia C (d + 1) cX7_advance 2 RX7 none → (∀ (z : Nat), z = (if f < tl then srC (tb f) else 0) → Z l ad D ia C none Y 127 [(0, .ref (ad 16 0)), (1, .int (if z = 1 ∨ z = 2 then 1 else 0))] [] (va_up s 16 (setI (setI (setI (s 16) 3 (nI f)) 2 (nI z)) 4 (nI (if f < tl then f + 1 else f))))) → ∀ s1 : ZS, s1 = stI s 16 3 ((s 16).1 4) → Z l ad D ia C none Y 8 [(0, .ref (ad 16 0))] [] s1 := by
    intro C Y hC kz s1 e1
    have e1 : s1 = va_up s 16 (setI (s 16) 3 (nI q)) := by rw [e1, h4]; rfl
    subst e1
    refine adv8 (tb := tb) hC h160 (tl - q) q (setI (s 16) 3 (nI q)) (by omega) (by rw [sI_n _ _ (by decide)]; exact h1) (sI_s _ _ _) hb ?_
    rw [setI_I, hf]
    have ez : (if f < tl then nI (srC (tb f)) else 0) = nI (if f < tl then srC (tb f) else 0) := by
      by_cases c : f < tl
      · rw [if_pos c, if_pos c]
      · rw [if_neg c, if_neg c]
        rfl
    rw [ez]
    have hz : (if f < tl then srC (tb f) else 0) ≤ 4 := by
      have := srC_pos (tb f)
      by_cases c : f < tl
      · rw [if_pos c]; omega
      · rw [if_neg c]; omega
    exact adv74 hC h160 hz (by omega) (by rw [sI_n _ _ (by decide)]; exact h1) (sI_s _ _ _) (kz _ rfl)
  have sp := srC_pos (tb f)
  by_cases c : f < tl
  · by_cases c1 : srC (tb f) = 1
    · refine ⟨setI (setI (setI (setI (s 16) 3 (nI f)) 2 (nI 1)) 4 (nI (f + 1))) 4 (nI (rnS tb 1 (tl - (f + 1)) (f + 1))), eX7_advance (fun C hC s1 e1 => go hC (fun z hz => ?_) s1 e1), ?_⟩
      · rw [if_pos c, c1] at hz
        subst hz
        rw [if_pos c, if_pos (Or.inl rfl)]
        refine adv127 (tb := tb) hC h160 (z := 1) (by decide) (tl - (f + 1)) (f + 1) _ (by omega) (by simp [setI, va_up, h1]) (by simp [setI, va_up]) (sI_s _ _ _) hb ?_
        refine bX7_advance_174 hC ?_
        rw [va_up_self]
        refine ⟨fun _ => ⟨rfl, rfl⟩, fun h => ?_⟩
        rw [sI_n _ _ (by decide), sI_n _ _ (by decide), sI_s] at h
        exact absurd h (by decide)
      · have et : tkZ tl tb f = (1, f, rnS tb 1 (tl - (f + 1)) (f + 1)) := by unfold tkZ; rw [if_pos c, if_pos c1]
        rw [et]
        exact ⟨by simp [setI, va_up, h1], hb, by simp [setI, va_up], by simp [setI, va_up], by simp [setI, va_up]⟩
    · by_cases c2 : srC (tb f) = 2
      · have hr := rnS_le tb 2 (tl - (f + 1)) (f + 1)
        have h127 : ∀ {C : ZC} {Y : ZS}, Zok ad D ia C (d + 1) cX7_advance 2 RX7 none → Z l ad D ia C none Y 174 [(0, .ref (ad 16 0))] [] (va_up s 16 (setI (setI (setI (setI (s 16) 3 (nI f)) 2 (nI 2)) 4 (nI (f + 1))) 4 (nI (rnS tb 2 (tl - (f + 1)) (f + 1))))) → ∀ s1 : ZS, s1 = stI s 16 3 ((s 16).1 4) → Z l ad D ia C none Y 8 [(0, .ref (ad 16 0))] [] s1 := by
          intro C Y hC kz s1 e1
          refine go hC (fun z hz => ?_) s1 e1
          rw [if_pos c, c2] at hz
          subst hz
          rw [if_pos c, if_pos (Or.inr rfl)]
          exact adv127 (tb := tb) hC h160 (z := 2) (by decide) (tl - (f + 1)) (f + 1) _ (by omega) (by simp [setI, va_up, h1]) (by simp [setI, va_up]) (sI_s _ _ _) hb kz
        have et : tkZ tl tb f = (if rnS tb 2 (tl - (f + 1)) (f + 1) ≤ f + 2 then 2 else 4, f, rnS tb 2 (tl - (f + 1)) (f + 1)) := by unfold tkZ; rw [if_pos c, if_neg c1, if_pos c2]
        rw [et]
        generalize rnS tb 2 (tl - (f + 1)) (f + 1) = e at h127 hr
        have a2 : (setI (setI (setI (setI (s 16) 3 (nI f)) 2 (nI 2)) 4 (nI (f + 1))) 4 (nI e)).1 2 = 2 := by rw [sI_n _ _ (by decide), sI_n _ _ (by decide), sI_s]; rfl
        have a3 : (setI (setI (setI (setI (s 16) 3 (nI f)) 2 (nI 2)) 4 (nI (f + 1))) 4 (nI e)).1 3 = nI f := by rw [sI_n _ _ (by decide), sI_n _ _ (by decide), sI_n _ _ (by decide), sI_s]
        have a4 : (setI (setI (setI (setI (s 16) 3 (nI f)) 2 (nI 2)) 4 (nI (f + 1))) 4 (nI e)).1 4 = nI e := sI_s _ _ _
        have a1 : (setI (setI (setI (setI (s 16) 3 (nI f)) 2 (nI 2)) 4 (nI (f + 1))) 4 (nI e)).1 1 = nI tl := by rw [sI_n _ _ (by decide), sI_n _ _ (by decide), sI_n _ _ (by decide), sI_n _ _ (by decide)]; exact h1
        have a0 : ∀ j, j < tl → (setI (setI (setI (setI (s 16) 3 (nI f)) 2 (nI 2)) 4 (nI (f + 1))) 4 (nI e)).2.2 0 j = tb j := hb
        generalize setI (setI (setI (setI (s 16) 3 (nI f)) 2 (nI 2)) 4 (nI (f + 1))) 4 (nI e) = w at h127 a0 a1 a2 a3 a4
        by_cases c3 : e ≤ f + 2
        · refine ⟨w, eX7_advance (fun C hC s1 e1 => h127 hC (bX7_advance_174 hC ?_) s1 e1), a1, a0, by rw [if_pos c3]; exact a2, a3, a4⟩
          rw [va_up_self, a2, a3, a4, pk_sub (by omega)]
          exact ⟨fun h => absurd rfl h, fun _ => ⟨fun _ => ⟨rfl, rfl⟩, fun h => absurd (nI_le (a := e - f) (b := 2) (by omega) (by omega)) h⟩⟩
        · refine ⟨setI w 2 4, eX7_advance (fun C hC s1 e1 => h127 hC (bX7_advance_174 hC ?_) s1 e1), by rw [sI_n _ _ (by decide)]; exact a1, a0, by rw [if_neg c3, sI_s]; rfl, by rw [sI_n _ _ (by decide)]; exact a3, by rw [sI_n _ _ (by decide)]; exact a4⟩
          rw [va_up_self, a2, a3, a4, pk_sub (by omega)]
          refine ⟨fun h => absurd rfl h, fun _ => ⟨fun h => absurd h (nI_ge (a := 2) (b := e - f) (by omega) (by omega)), fun _ s3 e3 => ⟨rfl, ?_⟩⟩⟩
          rw [e3, stI_up]
      · refine ⟨setI (setI (setI (s 16) 3 (nI f)) 2 (nI (srC (tb f)))) 4 (nI (f + 1)), eX7_advance (fun C hC s1 e1 => go hC (fun z hz => ?_) s1 e1), ?_⟩
        · rw [if_pos c] at hz
          subst hz
          rw [if_pos c, if_neg (fun q => q.elim c1 c2)]
          refine bX7_advance_127 hC ⟨fun _ => ?_, fun h => absurd rfl h⟩
          refine bX7_advance_174 hC ?_
          rw [va_up_self]
          refine ⟨fun _ => ⟨rfl, rfl⟩, fun h => ?_⟩
          rw [sI_n _ _ (by decide), sI_s] at h
          exact absurd ((nI_eq (a := srC (tb f)) (b := 2) (by omega) (by omega)).mp h) c2
        · have et : tkZ tl tb f = (srC (tb f), f, f + 1) := by unfold tkZ; rw [if_pos c, if_neg c1, if_neg c2]
          rw [et]
          exact ⟨by simp [setI, va_up, h1], hb, by simp [setI, va_up], by simp [setI, va_up], by simp [setI, va_up]⟩
  · refine ⟨setI (setI (setI (s 16) 3 (nI f)) 2 (nI 0)) 4 (nI f), eX7_advance (fun C hC s1 e1 => go hC (fun z hz => ?_) s1 e1), ?_⟩
    · rw [if_neg c] at hz
      subst hz
      rw [if_neg c, if_neg (by decide)]
      refine bX7_advance_127 hC ⟨fun _ => ?_, fun h => absurd rfl h⟩
      refine bX7_advance_174 hC ?_
      rw [va_up_self]
      refine ⟨fun _ => ⟨rfl, rfl⟩, fun h => ?_⟩
      rw [sI_n _ _ (by decide), sI_s] at h
      exact absurd h (by decide)
    · have et : tkZ tl tb f = (0, f, f) := by unfold tkZ; rw [if_neg c]
      rw [et]
      exact ⟨by simp [setI, va_up, h1], hb, by simp [setI, va_up], by simp [setI, va_up], by simp [setI, va_up]⟩
end TXC
