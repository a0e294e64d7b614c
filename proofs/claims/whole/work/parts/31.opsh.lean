theorem CR_sh {s : ZS} {v : OV} {k : Nat} {nb nr : Nat} {p : PS} {tl : Nat} {tb : Nat → Int32} {flt : Int32} {sn : Nat} {sa : Nat → Nat → Int32} {K : KT} {H : HT} {tn : Int32} {q : Int32 × Int32 × (Nat → Int32)} (hk : k < 4) (h : CR s nb nr p tl tb flt sn sa K H tn) (hv : v.1 0 = q.1 ∧ v.1 1 = q.2.1 ∧ ∀ i, i < 40 → v.2.2 2 i = q.2.2 i) : CR (va_up s (12 + k) v) nb nr p tl tb flt sn sa K (va_up H k q) tn := by
  have e : ∀ o, o ≠ 12 + k → va_up s (12 + k) v o = s o := fun o ho => va_up_ne _ _ ho
  obtain ⟨h1, h2, h3, h4, h5, h6⟩ := h
  refine ⟨by rw [e 1 (by omega)]; exact h1, by rw [e 16 (by omega)]; exact h2, by rw [e 0 (by omega)]; exact h3, by rw [e 7 (by omega)]; exact h4, ?_, ?_⟩
  · intro i hi
    rw [e (10 + i) (by omega), e (5 + i) (by omega), e (8 + i) (by omega)]
    exact h5 i hi
  · intro i hi
    by_cases c : i = k
    · subst c
      rw [va_up_self, va_up_self]
      exact hv
    · rw [e (12 + i) (by omega), va_up_ne _ _ c]
      exact h6 i hi
theorem zc12 {k : Nat} (h : k < 4) : zcls (12 + k) = 5 := by
  rcases (show k = 0 ∨ k = 1 ∨ k = 2 ∨ k = 3 by omega) with rfl | rfl | rfl | rfl <;> decide
section OH
variable {l : Launch} {ad : ZA} {D : va_G} {ia : Nat → ClassId} {d nb nr r b o o1 : Nat} {s : ZS} {p : PS} {f m w : Int32}
theorem ev_renew (ho : zcls o = 5) (x y : Int32) : ∃ v, Ev l ad D ia d mX5_renew [.ref (ad o 0), .int x, .int y] s none (va_up s o v) ∧ v.1 0 = x ∧ v.1 1 = y ∧ ∀ i, i < 40 → v.2.2 2 i = 0 := by
  have h : ∀ (k i : Nat) (v : OV), i + k = 40 → (∀ j, j < i → v.2.2 2 j = 0) → ∃ v2, (v2.1 = v.1 ∧ ∀ j, j < 40 → v2.2.2 2 j = 0) ∧ ∀ C : ZC, Zok ad D ia C d cX5_renew 4 RX5 none → Z l ad D ia C none (va_up s o v2) 12 [(0, .ref (ad o 0)), (3, .int (nI i))] [] (va_up s o v) := by
    intro k
    induction k with
    | zero =>
      intro i v hk h1
      exact ⟨v, ⟨rfl, fun j hj => h1 j (by omega)⟩, fun C hC => bX5_renew_12 ho hC ⟨fun _ => ⟨rfl, rfl⟩, fun h => absurd (nI_le (a := 40) (b := i) (by omega) (by omega)) h⟩⟩
    | succ k ih =>
      intro i v hk h1
      obtain ⟨v2, ⟨h2, h3⟩, hz⟩ := ih (i + 1) (setA v 2 (upd (v.2.2 2) i 0)) (by omega) (by
        intro j hj
        show va_up v.2.2 2 (upd (v.2.2 2) i 0) 2 j = 0
        rw [va_up_self]
        by_cases e : j = i
        · rw [e, upd_self]
        · rw [upd_ne _ _ e]
          exact h1 j (by omega))
      refine ⟨v2, ⟨h2, h3⟩, fun C hC => bX5_renew_12 ho hC ⟨fun h => absurd h (nI_ge (a := i) (b := 40) (by omega) (by omega)), fun _ => ⟨vp_in_nI (by omega) (by omega), fun s1 e1 => ?_⟩⟩⟩
      rw [nI_clamp (by omega), stA_up] at e1
      subst e1
      rw [nI_1]
      exact hz C hC
  obtain ⟨v2, ⟨h2, h3⟩, hz⟩ := h 40 0 (setI (setI (s o) 0 x) 1 y) rfl (fun j hj => absurd hj (by omega))
  refine ⟨v2, eX5_renew ho (fun C hC s1 e1 s2 e2 => ?_), by rw [h2]; rfl, by rw [h2]; rfl, h3⟩
  have e1 : s1 = va_up s o (setI (s o) 0 x) := e1
  subst e1
  rw [stI_up] at e2
  subst e2
  exact hz C hC
theorem mv_isSheet (x y : Int32) : Ev l ad D ia (d + 1) mX9_isSheet [.int x, .int y] s (some (.int (b1 (inN x 4 && inN y 3)))) s := by
  refine eX9_isSheet ⟨_, _, mv_in3 x, fun h => ⟨?_, rfl⟩, fun h => ⟨_, _, mv_in0 y (n := 3) (by decide) (by decide), fun h2 => ⟨?_, rfl⟩, fun h2 => ⟨?_, rfl⟩⟩⟩
  · rw [b1_ne.mp h]; rfl
  · rw [b1_n.mp h, b1_ne.mp h2]; rfl
  · rw [b1_n.mp h, b1_n.mp h2]; rfl
/-- the reference's cells of a sheet become 0 -/
theorem mv_zero {k : Nat} (hk : k < 4) : ∀ (n i : Nat) (v : OV), i + n = 40 → (∀ j, j < i → v.2.2 31 (40 * k + j) = 0) → ∃ a2, ((∀ j, j < 40 → a2 (40 * k + j) = 0) ∧ ∀ j, j < 40 * k ∨ 40 * k + 40 ≤ j → a2 j = v.2.2 31 j) ∧ ∀ C : ZC, Zok ad D ia C (d + 1) cX9_sheet 5 RX9 (some .int) → Z l ad D ia C (some (.int 1)) (va_up s 20 (setA v 31 a2)) 40 [(0, .ref (ad 20 0)), (1, .int (nI k)), (4, .int (nI i))] [] (va_up s 20 v) := by
  intro n
  induction n with
  | zero =>
    intro i v hn h1
    refine ⟨v.2.2 31, ⟨fun j hj => h1 j (by omega), fun j _ => rfl⟩, fun C hC => bX9_sheet_40 hC ⟨fun _ => ⟨rfl, ?_⟩, fun h => absurd (nI_le (a := 40) (b := i) (by omega) (by omega)) h⟩⟩
    have : setA v 31 (v.2.2 31) = v := by unfold setA; rw [up_id]
    rw [this]
  | succ n ih =>
    intro i v hn h1
    obtain ⟨a2, ⟨h2, h3⟩, hz⟩ := ih (i + 1) (setA v 31 (upd (v.2.2 31) (40 * k + i) 0)) (by omega) (by
      intro j hj
      show va_up v.2.2 31 (upd (v.2.2 31) (40 * k + i) 0) 31 (40 * k + j) = 0
      rw [va_up_self]
      by_cases e : j = i
      · rw [e, upd_self]
      · rw [upd_ne _ _ (by omega)]
        exact h1 j (by omega))
    have e0 : setA (setA v 31 (upd (v.2.2 31) (40 * k + i) 0)) 31 a2 = setA v 31 a2 := by unfold setA; rw [up_up]
    rw [e0] at hz
    refine ⟨a2, ⟨h2, fun j hj => ?_⟩, fun C hC => bX9_sheet_40 hC ⟨fun h => absurd h (nI_ge (a := i) (b := 40) (by omega) (by omega)), fun _ => ?_⟩⟩
    · rw [h3 j hj]
      show va_up v.2.2 31 (upd (v.2.2 31) (40 * k + i) 0) 31 j = _
      rw [va_up_self, upd_ne _ _ (by omega)]
    · have e1 : 40 * nI k + nI i = nI (40 * k + i) := by
        show nI 40 * nI k + nI i = _
        rw [nI_mul, nI_add]
      rw [e1]
      refine ⟨vp_in_nI (by omega) (by omega), fun s1 e1 => ?_⟩
      rw [nI_clamp (by omega), stA_up] at e1
      subst e1
      rw [nI_1]
      exact hz C hC
theorem op_sheet (hR : RR s) (x y z : Int32) : Op l ad D ia s mX8_sheet mX9_sheet [.int x, .int y, .int z] := by
  obtain ⟨nb, nr, p, tl, tb, flt, sn, sa, K, H, tn, hG, hC, hM⟩ := hR
  have hbad : RR s := ⟨nb, nr, p, tl, tb, flt, sn, sa, K, H, tn, hG, hC, hM⟩
  have o1 := ev_out0 (l := l) (ad := ad) (D := D) (ia := ia) (d := 8) (s := s) (n := 3) x (y := 3) rfl (by decide)
  have o2 := ev_out0 (l := l) (ad := ad) (D := D) (ia := ia) (d := 8) (s := s) (n := 2) y (y := 2) rfl (by decide)
  have hS := fun s2 => mv_isSheet (l := l) (ad := ad) (D := D) (ia := ia) (d := 7) (s := s2) x y
  by_cases cx : inN x 4 = true
  · by_cases cy : inN y 3 = true
    · rw [cx] at o1
      rw [cy] at o2
      rw [cx, cy] at hS
      by_cases c40 : z ≤ 40
      · by_cases c0 : 0 ≤ z
        · obtain ⟨k, hk, rfl⟩ := inN_nI cx
          have hcl := nI_clamp (show k < 2 ^ 31 by omega)
          have hin := vp_in_nI hk (show 4 < 2 ^ 31 by decide)
          obtain ⟨v, hev, hv⟩ := ev_renew (l := l) (ad := ad) (D := D) (ia := ia) (d := 8) (s := s) (zc12 hk) y z
          have h20 : va_up s (12 + k) v 20 = s 20 := va_up_ne _ _ (by omega)
          obtain ⟨a2, ⟨ha1, ha2⟩, hz⟩ := mv_zero (l := l) (ad := ad) (D := D) (ia := ia) (d := 8) (s := va_up s (12 + k) v) hk 40 0 (setA (setA (s 20) 29 (upd ((s 20).2.2 29) k y)) 30 (upd ((s 20).2.2 30) k z)) rfl (fun j hj => absurd hj (by omega))
          have hmod : Ev l ad D ia 9 mX9_sheet [.ref (ad 20 0), .int (nI k), .int y, .int z] (va_up s (12 + k) v) (some (.int 1)) (va_up (va_up s (12 + k) v) 20 (setA (setA (setA (s 20) 29 (upd ((s 20).2.2 29) k y)) 30 (upd ((s 20).2.2 30) k z)) 31 a2)) := by
            refine eX9_sheet (fun C hZ => ⟨_, _, hS _, fun h => absurd h (by decide), fun _ => ⟨fun _ => ⟨fun _ => ⟨hin, fun s1 e1 => ⟨hin, fun s2 e2 => ?_⟩⟩, fun h => absurd c0 h⟩, fun h => absurd c40 h⟩⟩)
            rw [hcl] at e1 e2
            have e1 : s1 = va_up (va_up s (12 + k) v) 20 (setA (s 20) 29 (upd ((s 20).2.2 29) k y)) := by rw [e1]; unfold stA; rw [h20]
            subst e1
            rw [stA_up] at e2
            have e2 : s2 = va_up (va_up s (12 + k) v) 20 (setA (setA (s 20) 29 (upd ((s 20).2.2 29) k y)) 30 (upd ((s 20).2.2 30) k z)) := by rw [e2]; rfl
            subst e2
            exact hz C hZ
          obtain ⟨n, -, hn, rfl⟩ : rng z 0 40 := by
            have h1 : 0 ≤ z.toInt := by have := Int32.le_iff_toInt_le.mp c0; rw [i32_0] at this; exact this
            have h2 : z.toInt ≤ 40 := by have := Int32.le_iff_toInt_le.mp c40; have e : (40 : Int32).toInt = 40 := by decide
                                         omega
            exact ⟨z.toInt.toNat, by omega, by omega, nI_of_toInt h1⟩
          refine ⟨.int 1, _, _, eX8_sheet ⟨_, _, o1, fun h => absurd rfl h, fun _ => ⟨_, _, o2, fun h => absurd rfl h, fun _ => ⟨fun _ => ⟨fun _ => ⟨hin, by rw [hcl]; exact zc12 hk, _, by rw [hcl]; exact hev, rfl, rfl⟩, fun h => absurd c0 h⟩, fun h => absurd c40 h⟩⟩⟩, hmod, nb, nr, p, tl, tb, flt, sn, sa, K, va_up H k (y, nI n, fun _ => 0), tn, ⟨hG.1, hG.2.1, hG.2.2.1, hG.2.2.2.1, fun j hj => ?_⟩, CR_20 (CR_sh hk hC hv), ?_⟩
          · by_cases e : j = k
            · rw [e, va_up_self]
              exact ⟨Or.inr (rng_in cy), n, by omega, hn, rfl⟩
            · rw [va_up_ne _ _ e]
              exact hG.2.2.2.2 j hj
          · rw [va_up_self]
            obtain ⟨q1, q2, q3, q4, q5, q6⟩ := hM
            refine ⟨q1, q2, q3, q4, q5, fun j hj => ?_⟩
            by_cases e : j = k
            · subst e
              rw [va_up_self]
              exact ⟨upd_self _ _ _, upd_self _ _ _, fun i hi => ha1 i hi⟩
            · rw [va_up_ne _ _ e]
              obtain ⟨g1, g2, g3⟩ := q6 j hj
              refine ⟨(upd_ne _ _ e).trans g1, (upd_ne _ _ e).trans g2, fun i hi => ?_⟩
              have := ha2 (40 * j + i) (by omega)
              exact this.trans (g3 i hi)
        · exact ⟨.int (-14), _, _, eX8_sheet ⟨_, _, o1, fun h => absurd rfl h, fun _ => ⟨_, _, o2, fun h => absurd rfl h, fun _ => ⟨fun _ => ⟨fun h => absurd h c0, fun _ => ⟨rfl, rfl⟩⟩, fun h => absurd c40 h⟩⟩⟩, eX9_sheet (fun C hZ => ⟨_, _, hS _, fun h => absurd h (by decide), fun _ => ⟨fun _ => ⟨fun h => absurd h c0, fun _ => ⟨rfl, rfl⟩⟩, fun h => absurd c40 h⟩⟩), hbad⟩
      · exact ⟨.int (-1), _, _, eX8_sheet ⟨_, _, o1, fun h => absurd rfl h, fun _ => ⟨_, _, o2, fun h => absurd rfl h, fun _ => ⟨fun h => absurd h c40, fun _ => ⟨rfl, rfl⟩⟩⟩⟩, eX9_sheet (fun C hZ => ⟨_, _, hS _, fun h => absurd h (by decide), fun _ => ⟨fun h => absurd h c40, fun _ => ⟨rfl, rfl⟩⟩⟩), hbad⟩
    · rw [cx] at o1
      rw [bool_f cy] at o2
      rw [cx, bool_f cy] at hS
      exact ⟨.int (-1), _, _, eX8_sheet ⟨_, _, o1, fun h => absurd rfl h, fun _ => ⟨_, _, o2, fun _ => ⟨rfl, rfl⟩, fun h => absurd h (by decide)⟩⟩, eX9_sheet (fun C hZ => ⟨_, _, hS _, fun _ => ⟨rfl, rfl⟩, fun h => absurd rfl h⟩), hbad⟩
  · rw [bool_f cx] at o1
    rw [bool_f cx] at hS
    exact ⟨.int (-1), _, _, eX8_sheet ⟨_, _, o1, fun _ => ⟨rfl, rfl⟩, fun h => absurd h (by decide)⟩, eX9_sheet (fun C hZ => ⟨_, _, hS _, fun _ => ⟨rfl, rfl⟩, fun h => absurd rfl h⟩), hbad⟩
/-- what a sheet finds: its lane as asked, a cell -/
def shF (q : Int32 × Int32 × (Nat → Int32)) (n : Nat) (x i : Int32) : Int32 := if q.1 = -4 then 1 else if q.1 = x then (if inN i n then 0 else 2) else 3
theorem ev_out0p {x : Int32} {n : Nat} {y : Int32} (hy : y = nI n - 1) (hn : n < 2 ^ 31) : Ev l ad D ia d mX8_outside [.int x, .int 0, .int y] s (some (.int (b1 (!inN x n)))) s := by
  subst hy
  have h := @inN_iff x n
  refine eX8_outside ⟨fun h1 => ⟨?_, rfl⟩, fun h1 => ⟨fun h2 => ⟨?_, rfl⟩, fun h2 => ⟨?_, rfl⟩⟩⟩
  · rw [Int32.lt_iff_toInt_lt, i32_0] at h1
    have : inN x n = false := by
      cases e : inN x n
      · rfl
      · have := h.mp e
        omega
    rw [this]
    rfl
  · rw [Int32.lt_iff_toInt_lt, i32_0] at h1
    rw [Int32.le_iff_toInt_le, pred_toInt hn] at h2
    rw [h.mpr (by omega)]
    rfl
  · rw [Int32.le_iff_toInt_le, pred_toInt hn] at h2
    have : inN x n = false := by
      cases e : inN x n
      · rfl
      · have := h.mp e
        omega
    rw [this]
    rfl
theorem ev_faultAt (ho : zcls o = 5) {q : Int32 × Int32 × (Nat → Int32)} {n : Nat} (h0 : (s o).1 0 = q.1) (h1 : (s o).1 1 = nI n) (hn : n ≤ 40) (x i : Int32) : Ev l ad D ia (d + 1) mX5_faultAt [.ref (ad o 0), .int x, .int i] s (some (.int (shF q n x i))) s := by
  unfold shF
  refine eX5_faultAt ho ?_
  rw [h0]
  refine ⟨fun h => ⟨fun h2 => ⟨_, _, ev_out0p (n := n) (by rw [h1]) (by omega), fun h3 => ⟨?_, rfl⟩, fun h3 => ⟨?_, rfl⟩⟩, fun h2 => ⟨?_, rfl⟩⟩, fun h => ⟨?_, rfl⟩⟩
  · have e : inN i n = true := by simpa using b1_ne.mp h3
    rw [if_neg h, if_pos h2, e]
    rfl
  · have e : inN i n = false := by simpa using b1_n.mp h3
    rw [if_neg h, if_pos h2, e]
    rfl
  · rw [if_neg h, if_neg h2]
  · rw [if_pos h]
end OH
