theorem SAT_cp {a a2 : Nat → Int32} {g t nb nr : Nat} {p : PS} {sn : Nat} {sa : Nat → Nat → Int32} (h : SAT a g nb nr p sn sa) (h8 : nb ≤ 8) (h4 : nr ≤ 4) (h6 : sn ≤ 6) (e : ∀ j, j < 62 → a2 (t + j) = a (g + j)) : SAT a2 t nb nr p sn sa := by
  obtain ⟨⟨n1, n2, n3⟩, g2, g3⟩ := h
  exact ⟨⟨fun c hc b hb => (e _ (by omega)).trans (n1 c hc b hb), fun c hc r hr => (e _ (by omega)).trans (n2 c hc r hr), fun j hj => (e _ (by omega)).trans (n3 j hj)⟩, (e _ (by omega)).trans g2, fun i j hi hj => (e _ (by omega)).trans (g3 i j hi hj)⟩
section OF
variable {l : Launch} {ad : ZA} {D : va_G} {ia : Nat → ClassId} {d nb nr r b o o1 : Nat} {s : ZS} {p : PS} {f m w : Int32}
theorem op_forget (hR : RR s) (x : Int32) : Op l ad D ia s mX8_forget mX9_forget [.int x] := by
  obtain ⟨nb, nr, p, tl, tb, flt, sn, sa, K, H, tn, hG, hC, hM⟩ := hR
  have hS := hG.2.2.1
  have c1 := hC.2.2.2.1
  have m1 := sat0.mp hM.2.2.2.1
  have ho := ev_out0 (l := l) (ad := ad) (D := D) (ia := ia) (d := 8) (s := s) (n := sn) x (y := (s 7).1 0) c1.1 (by have := hS.1; omega)
  have c43 : (43 : Int32).toNatClampNeg = 43 := by decide
  have hin : vp_in 43 186 := vp_in_nI (n := 43) (by decide) (by decide)
  have hi := fun s2 (h : (s2 20).2.2 0 43 = nI sn) => mv_in0 (l := l) (ad := ad) (D := D) (ia := ia) (d := 8) (s := s2) x (n := sn + 1) (z := 0) (c := ((s2 20).2.2 0 (43 : Int32).toNatClampNeg).toInt64) (by decide) (by rw [i64_toInt, c43, h, nI_toInt (by have := hS.1; omega)]; omega)
  by_cases cx : inN x (sn + 1) = true
  · rw [cx] at ho hi
    obtain ⟨k, hk, rfl⟩ := inN_nI cx
    have e7 : ∀ v, va_up s 7 v 20 = s 20 := fun v => va_up_ne _ _ (by decide)
    refine ⟨.int (nI sn), va_up s 7 (setI (s 7) 0 (nI k)), _, eX8_forget ⟨_, _, ho, fun _ s1 e1 => ⟨by rw [c1.1], e1.symm⟩, fun h => absurd rfl h⟩, eX9_forget ⟨hin, _, _, hi _ (by rw [e7]; exact m1.2.1), fun h => absurd h (by decide), fun _ => ⟨_, _, mv_becomes (i := 43) (by decide) (nI k), by rw [e7, m1.2.1], rfl⟩⟩, nb, nr, p, tl, tb, flt, k, sa, K, H, tn, ⟨hG.1, hG.2.1, ⟨by have := hS.1; omega, fun i hi => hS.2 i (by omega)⟩, hG.2.2.2⟩, CR_20 (CR_s hC ⟨rfl, fun i j hi hj => c1.2 i j (by omega) hj⟩), ?_⟩
    rw [va_up_self, e7]
    refine MR_a hM (upd_hi (by decide)) (sat0.mpr ⟨?_, ?_, ?_⟩)
    · obtain ⟨n1, n2, n3⟩ := m1.1
      have h8 := hG.1.1.1.1
      have h4 := hG.1.1.1.2
      exact ⟨fun c hc b hb => by rw [upd_ne _ _ (by omega)]; exact n1 c hc b hb, fun c hc b hb => by rw [upd_ne _ _ (by omega)]; exact n2 c hc b hb, fun j hj => by rw [upd_ne _ _ (by omega)]; exact n3 j hj⟩
    · rw [upd_self]
    · intro i j hi hj
      rw [upd_ne _ _ (by omega)]
      exact m1.2.2 i j (by omega) hj
  · rw [bool_f cx] at ho hi
    exact ⟨.int (-1), _, _, eX8_forget ⟨_, _, ho, fun h => absurd h (by decide), fun _ => ⟨rfl, rfl⟩⟩, eX9_forget ⟨hin, _, _, hi _ m1.2.1, fun _ => ⟨rfl, rfl⟩, fun h => absurd rfl h⟩, nb, nr, p, tl, tb, flt, sn, sa, K, H, tn, hG, hC, hM⟩
theorem ev_copySight (ho : zcls o = 6) (ho1 : zcls o1 = 6) (hne : o1 ≠ o) {sn : Nat} {sa : Nat → Nat → Int32} (hH : SR (s o1) sn sa) (h6 : sn ≤ 6) : ∃ v, Ev l ad D ia (d + 1) mX6_copyFrom [.ref (ad o 0), .ref (ad o1 0)] s none (va_up s o v) ∧ SR v sn sa := by
  apply Exists.intro
  apply And.intro
  · refine eX6_copyFrom ho ho1 ?_
    intro s1 e1
    have e1 : s1 = va_up s o (setI (s o) 0 ((s o1).1 0)) := e1
    subst e1
    intro s2 e2
    rw [stR_up, va_up_self, va_up_ne _ _ hne] at e2
    subst e2
    intro s3 e3
    rw [stR_up, va_up_self, va_up_ne _ _ hne] at e3
    subst e3
    intro s4 e4
    rw [stR_up, va_up_self, va_up_ne _ _ hne] at e4
    exact ⟨rfl, e4.symm⟩
  · refine ⟨hH.1, fun i j hi hj => ?_⟩
    have hi6 : i < 6 := by omega
    rcases (show j = 0 ∨ j = 1 ∨ j = 2 by omega) with rfl | rfl | rfl
    · exact (cpy0 hi6).trans (hH.2 i 0 hi (by decide))
    · exact (cpy0 hi6).trans (hH.2 i 1 hi (by decide))
    · exact (cpy0 hi6).trans (hH.2 i 2 hi (by decide))
/-- copies of the reference -/
theorem mv_copies {t g : Nat} (ht : t + 62 ≤ 186) (hg : g + 62 ≤ 186) (hd : t + 62 ≤ g ∨ g + 62 ≤ t) : ∃ a2, Ev l ad D ia d mX9_copies [.ref (ad 20 0), .int (nI t), .int (nI g)] s none (va_up s 20 (setA (s 20) 0 a2)) ∧ (∀ j, j < 62 → a2 (t + j) = (s 20).2.2 0 (g + j)) ∧ ∀ i, i < t ∨ t + 62 ≤ i → a2 i = (s 20).2.2 0 i := by
  have h : ∀ (k i : Nat) (a : Nat → Int32), i + k = 62 → (∀ j, j < i → a (t + j) = (s 20).2.2 0 (g + j)) → (∀ j, j < t ∨ t + i ≤ j → a j = (s 20).2.2 0 j) → ∃ a2, ((∀ j, j < 62 → a2 (t + j) = (s 20).2.2 0 (g + j)) ∧ ∀ i, i < t ∨ t + 62 ≤ i → a2 i = (s 20).2.2 0 i) ∧ ∀ C : ZC, Zok ad D ia C d cX9_copies 4 RX9 none → Z l ad D ia C none (va_up s 20 (setA (s 20) 0 a2)) 2 [(0, .ref (ad 20 0)), (1, .int (nI t)), (2, .int (nI g)), (3, .int (nI i))] [] (va_up s 20 (setA (s 20) 0 a)) := by
    intro k
    induction k with
    | zero =>
      intro i a hk h1 h2
      exact ⟨a, ⟨fun j hj => h1 j (by omega), fun j hj => h2 j (by omega)⟩, fun C hC => bX9_copies_2 hC ⟨fun _ => ⟨rfl, rfl⟩, fun h => absurd (nI_le (a := 62) (b := i) (by omega) (by omega)) h⟩⟩
    | succ k ih =>
      intro i a hk h1 h2
      obtain ⟨a2, ha2, hz⟩ := ih (i + 1) (upd a (t + i) (a (g + i))) (by omega) (by
        intro j hj
        by_cases e : j = i
        · subst e
          rw [upd_self]
          exact h2 _ (by omega)
        · rw [upd_ne _ _ (by omega)]
          exact h1 j (by omega)) (by
        intro j hj
        rw [upd_ne _ _ (by omega)]
        exact h2 j (by omega))
      refine ⟨a2, ha2, fun C hC => bX9_copies_2 hC ⟨fun h => absurd h (nI_ge (a := i) (b := 62) (by omega) (by omega)), fun _ => ?_⟩⟩
      rw [nI_add, nI_add]
      refine ⟨vp_in_nI (by omega) (by omega), vp_in_nI (by omega) (by omega), fun s1 e1 => ?_⟩
      rw [nI_clamp (by omega), nI_clamp (by omega), va_up_self, stA_up] at e1
      have e1 : s1 = va_up s 20 (setA (s 20) 0 (upd a (t + i) (a (g + i)))) := by
        rw [e1]
        show va_up s 20 ((s 20).1, (s 20).2.1, va_up (va_up (s 20).2.2 0 a) 0 (upd (va_up (s 20).2.2 0 a 0) (t + i) (va_up (s 20).2.2 0 a 0 (g + i)))) = _
        rw [up_up, va_up_self]
        rfl
      subst e1
      rw [nI_1]
      exact hz C hC
  obtain ⟨a2, ⟨h1, h2⟩, hz⟩ := h 62 0 ((s 20).2.2 0) rfl (fun j hj => absurd hj (by omega)) (fun j _ => rfl)
  have e : va_up s 20 (setA (s 20) 0 ((s 20).2.2 0)) = s := by
    have : setA (s 20) 0 ((s 20).2.2 0) = s 20 := by
      unfold setA
      rw [up_id]
    rw [this, up_id]
  rw [e] at hz
  exact ⟨a2, eX9_copies hz, h1, h2⟩
theorem zc10 {k : Nat} (h : k < 2) : zcls (10 + k) = 1 ∧ zcls (5 + k) = 0 ∧ zcls (8 + k) = 6 ∧ ztg (10 + k) 1 = 5 + k ∧ ztg (10 + k) 2 = 8 + k := by
  rcases (show k = 0 ∨ k = 1 by omega) with rfl | rfl <;> decide
theorem nz1 : vp_nar .boolean 1 = 1 := by decide
theorem op_keep (hR : RR s) (x : Int32) : Op l ad D ia s mX8_keep mX9_keep [.int x] := by
  obtain ⟨nb, nr, p, tl, tb, flt, sn, sa, K, H, tn, hG, hC, hM⟩ := hR
  have hp := hG.1.1
  have h8 := hp.1.1
  have h4 := hp.1.2
  have h6 := hG.2.2.1.1
  have ho := ev_out0 (l := l) (ad := ad) (D := D) (ia := ia) (d := 8) (s := s) (n := 1) x (y := 1) rfl (by decide)
  by_cases cx : inN x 2 = true
  · rw [cx] at ho
    obtain ⟨k, hk, rfl⟩ := inN_nI cx
    obtain ⟨z1, z2, z3, z4, z5⟩ := zc10 hk
    have hcl := nI_clamp (show k < 2 ^ 31 by omega)
    have hin := vp_in_nI hk (show 2 < 2 ^ 31 by decide)
    obtain ⟨f, w, hH⟩ := hC.1
    obtain ⟨v1, hv1, hH1⟩ := ev_copyFrom (l := l) (ad := ad) (D := D) (ia := ia) (d := 7) (s := s) (o := 5 + k) (o1 := 1) z2 rfl (by omega) hH h8 h4
    have hS7 : SR (va_up s (5 + k) v1 7) sn sa := by rw [va_up_ne _ _ (by omega)]; exact hC.2.2.2.1
    obtain ⟨v2, hv2, hS2⟩ := ev_copySight (l := l) (ad := ad) (D := D) (ia := ia) (d := 7) (s := va_up s (5 + k) v1) (o := 8 + k) (o1 := 7) z3 rfl (by omega) hS7 h6
    have hfl : (s (10 + k)).1 0 = (K k).1 := (hC.2.2.2.2.1 k hk).1
    have hmf : (s 20).2.2 2 k = (K k).1 := (hM.2.2.2.2.1 k hk).1
    have hs3 : ∀ o, o ≠ 5 + k → o ≠ 8 + k → va_up (va_up s (5 + k) v1) (8 + k) v2 o = s o := fun o h1 h2 => by rw [va_up_ne _ _ h2, va_up_ne _ _ h1]
    have hs4 : ∀ o, o ≠ 5 + k → o ≠ 8 + k → o ≠ 10 + k → stI (va_up (va_up s (5 + k) v1) (8 + k) v2) (10 + k) 0 1 o = s o := fun o h1 h2 h3 => by unfold stI; rw [va_up_ne _ _ h3]; exact hs3 o h1 h2
    have hcls : Ev l ad D ia 9 mX8_keep [.ref (ad 0 0), .int (nI k)] s (some (.int (if (K k).1 = 0 then 0 else 1))) (stI (va_up (va_up s (5 + k) v1) (8 + k) v2) (10 + k) 0 1) := by
      refine eX8_keep ⟨_, _, ho, fun _ => ?_, fun h => absurd rfl h⟩
      rw [hcl, z4, z5, hfl]
      refine ⟨hin, z1, fun h => ⟨hin, z1, z2, _, hv1, hin, z1, z3, _, hv2, hin, z1, fun s1 e1 => ⟨?_, e1.symm⟩⟩, fun h => ⟨hin, z1, z2, _, hv1, hin, z1, z3, _, hv2, hin, z1, fun s1 e1 => ⟨?_, e1.symm⟩⟩⟩
      · rw [if_pos h]
      · rw [if_neg h]
    have h20 := hs4 20 (by omega) (by omega) (by omega)
    have hi := mv_in0 (l := l) (ad := ad) (D := D) (ia := ia) (d := 8) (s := stI (va_up (va_up s (5 + k) v1) (8 + k) v2) (10 + k) 0 1) (nI k) (n := 2) (z := 0) (c := 1) (by decide) (by decide)
    rw [cx] at hi
    obtain ⟨a2, hcp, ha1, ha2⟩ := mv_copies (l := l) (ad := ad) (D := D) (ia := ia) (d := 8) (s := va_up (stI (va_up (va_up s (5 + k) v1) (8 + k) v2) (10 + k) 0 1) 20 (setA (s 20) 2 (upd ((s 20).2.2 2) k 1))) (t := 62 * (k + 1)) (g := 0) (by omega) (by omega) (by omega)
    rw [up_up] at hcp
    rw [va_up_self] at hcp ha1 ha2
    have e62 : 62 * (nI k + 1) = nI (62 * (k + 1)) := by rw [nI_1]; exact nI_mul 62 (k + 1)
    have hmod : Ev l ad D ia 9 mX9_keep [.ref (ad 20 0), .int (nI k)] (stI (va_up (va_up s (5 + k) v1) (8 + k) v2) (10 + k) 0 1) (some (.int (if (K k).1 = 0 then 0 else 1))) (va_up (stI (va_up (va_up s (5 + k) v1) (8 + k) v2) (10 + k) 0 1) 20 (setA (setA (s 20) 2 (upd ((s 20).2.2 2) k 1)) 0 a2)) := by
      refine eX9_keep ⟨_, _, hi, fun _ => ⟨hin, _, _, mv_flag _, hin, fun s1 e1 => ?_⟩, fun h => absurd h (by decide)⟩
      rw [hcl, nz1] at e1
      have e1 : s1 = va_up (stI (va_up (va_up s (5 + k) v1) (8 + k) v2) (10 + k) 0 1) 20 (setA (s 20) 2 (upd ((s 20).2.2 2) k 1)) := by rw [e1]; unfold stA; rw [h20]
      subst e1
      rw [e62]
      refine ⟨_, hcp, ?_, rfl⟩
      rw [h20, hcl, hmf]
    refine ⟨.int (if (K k).1 = 0 then 0 else 1), _, _, hcls, hmod, nb, nr, p, tl, tb, flt, sn, sa, va_up K k (1, p, sn, sa), H, tn, ⟨hG.1, hG.2.1, hG.2.2.1, fun j hj => ?_, hG.2.2.2.2⟩, CR_20 ?_, ?_⟩
    · by_cases e : j = k
      · subst e
        rw [va_up_self]
        exact ⟨Or.inr rfl, fun _ => ⟨hG.1, hG.2.2.1⟩⟩
      · rw [va_up_ne _ _ e]
        exact hG.2.2.2.1 j hj
    · obtain ⟨q1, q2, q3, q4, q5, q6⟩ := hC
      refine ⟨by rw [hs4 1 (by omega) (by omega) (by omega)]; exact q1, by rw [hs4 16 (by omega) (by omega) (by omega)]; exact q2, by rw [hs4 0 (by omega) (by omega) (by omega)]; exact q3, by rw [hs4 7 (by omega) (by omega) (by omega)]; exact q4, fun j hj => ?_, fun j hj => by rw [hs4 (12 + j) (by omega) (by omega) (by omega)]; exact q6 j hj⟩
      by_cases e : j = k
      · subst e
        rw [va_up_self]
        have g5 : stI (va_up (va_up s (5 + j) v1) (8 + j) v2) (10 + j) 0 1 (5 + j) = v1 := by unfold stI; rw [va_up_ne _ _ (by omega), va_up_ne _ _ (by omega), va_up_self]
        have g8 : stI (va_up (va_up s (5 + j) v1) (8 + j) v2) (10 + j) 0 1 (8 + j) = v2 := by unfold stI; rw [va_up_ne _ _ (by omega), va_up_self]
        have g10 : (stI (va_up (va_up s (5 + j) v1) (8 + j) v2) (10 + j) 0 1 (10 + j)).1 0 = 1 := by unfold stI; rw [va_up_self]; rfl
        rw [g5, g8, g10]
        exact ⟨rfl, fun _ => ⟨⟨0, 0, hH1⟩, hS2⟩⟩
      · rw [va_up_ne _ _ e, hs4 (10 + j) (by omega) (by omega) (by omega), hs4 (5 + j) (by omega) (by omega) (by omega), hs4 (8 + j) (by omega) (by omega) (by omega)]
        exact q5 j hj
    · rw [va_up_self]
      obtain ⟨q1, q2, q3, q4, q5, q6⟩ := hM
      have ha1 : ∀ j, j < 62 → a2 (62 * (k + 1) + j) = (s 20).2.2 0 (0 + j) := ha1
      have ha2 : ∀ i, i < 62 * (k + 1) ∨ 62 * (k + 1) + 62 ≤ i → a2 i = (s 20).2.2 0 i := ha2
      refine ⟨q1, q2, q3, (?_ : SAT a2 0 nb nr p sn sa), fun j hj => ?_, q6⟩
      · exact SAT_cp q4 h8 h4 h6 (fun j hj => ha2 _ (by omega))
      · by_cases e : j = k
        · subst e
          rw [va_up_self]
          exact ⟨upd_self _ _ _, fun _ => (SAT_cp q4 h8 h4 h6 ha1 : SAT a2 (62 * (j + 1)) nb nr p sn sa)⟩
        · rw [va_up_ne _ _ e]
          refine ⟨(upd_ne _ _ e).trans (q5 j hj).1, fun hn => (SAT_cp ((q5 j hj).2 hn) h8 h4 ((hG.2.2.2.1 j hj).2 hn).2.1 (fun i hi => ha2 _ (by omega)) : SAT a2 (62 * (j + 1)) nb nr _ _ _)⟩
  · rw [bool_f cx] at ho
    have hi := mv_in0 (l := l) (ad := ad) (D := D) (ia := ia) (d := 8) (s := s) x (n := 2) (z := 0) (c := 1) (by decide) (by decide)
    rw [bool_f cx] at hi
    exact ⟨.int (-1), _, _, eX8_keep ⟨_, _, ho, fun h => absurd h (by decide), fun _ => ⟨rfl, rfl⟩⟩, eX9_keep ⟨_, _, hi, fun h => absurd rfl h, fun _ => ⟨rfl, rfl⟩⟩, nb, nr, p, tl, tb, flt, sn, sa, K, H, tn, hG, hC, hM⟩
theorem op_back (hR : RR s) (x : Int32) : Op l ad D ia s mX8_back mX9_back [.int x] := by
  obtain ⟨nb, nr, p, tl, tb, flt, sn, sa, K, H, tn, hG, hC, hM⟩ := hR
  have hp := hG.1.1
  have h8 := hp.1.1
  have h4 := hp.1.2
  have hbad : RR s := ⟨nb, nr, p, tl, tb, flt, sn, sa, K, H, tn, hG, hC, hM⟩
  have ho := ev_out0 (l := l) (ad := ad) (D := D) (ia := ia) (d := 8) (s := s) (n := 1) x (y := 1) rfl (by decide)
  by_cases cx : inN x 2 = true
  · rw [cx] at ho
    obtain ⟨k, hk, rfl⟩ := inN_nI cx
    obtain ⟨z1, z2, z3, z4, z5⟩ := zc10 hk
    have hcl := nI_clamp (show k < 2 ^ 31 by omega)
    have hin := vp_in_nI hk (show 2 < 2 ^ 31 by decide)
    have hfl : (s (10 + k)).1 0 = (K k).1 := (hC.2.2.2.2.1 k hk).1
    have hmf : (s 20).2.2 2 k = (K k).1 := (hM.2.2.2.2.1 k hk).1
    by_cases ck : (K k).1 = 0
    · have hi := mv_in0 (l := l) (ad := ad) (D := D) (ia := ia) (d := 8) (s := s) (nI k) (n := 2) (z := 0) (c := 1) (by decide) (by decide)
      rw [cx] at hi
      refine ⟨.int (-2), _, _, eX8_back ⟨_, _, ho, fun _ => ?_, fun h => absurd rfl h⟩, eX9_back ⟨_, _, hi, fun _ => ⟨hin, ?_⟩, fun h => absurd h (by decide)⟩, hbad⟩
      · rw [hcl, hfl]
        exact ⟨hin, z1, fun h => absurd ck h, fun _ => ⟨rfl, rfl⟩⟩
      · rw [hcl, hmf]
        exact ⟨fun h => absurd ck h, fun _ => ⟨rfl, rfl⟩⟩
    · obtain ⟨⟨f, w, hH⟩, hS8⟩ := (hC.2.2.2.2.1 k hk).2 ck
      obtain ⟨hPB, hSB⟩ := (hG.2.2.2.1 k hk).2 ck
      obtain ⟨v1, hv1, hH1⟩ := ev_copyFrom (l := l) (ad := ad) (D := D) (ia := ia) (d := 7) (s := s) (o := 1) (o1 := 5 + k) rfl z2 (by omega) hH h8 h4
      have hS8b : SR (va_up s 1 v1 (8 + k)) (K k).2.2.1 (K k).2.2.2 := by rw [va_up_ne _ _ (by omega)]; exact hS8
      obtain ⟨v2, hv2, hS2⟩ := ev_copySight (l := l) (ad := ad) (D := D) (ia := ia) (d := 7) (s := va_up s 1 v1) (o := 7) (o1 := 8 + k) rfl z3 (by omega) hS8b hSB.1
      have h20 : va_up (va_up s 1 v1) 7 v2 20 = s 20 := by rw [va_up_ne _ _ (by omega), va_up_ne _ _ (by omega)]
      have hi := mv_in0 (l := l) (ad := ad) (D := D) (ia := ia) (d := 8) (s := va_up (va_up s 1 v1) 7 v2) (nI k) (n := 2) (z := 0) (c := 1) (by decide) (by decide)
      rw [cx] at hi
      obtain ⟨a2, hcp, ha1, ha2⟩ := mv_copies (l := l) (ad := ad) (D := D) (ia := ia) (d := 8) (s := va_up (va_up s 1 v1) 7 v2) (t := 0) (g := 62 * (k + 1)) (by omega) (by omega) (by omega)
      rw [h20] at hcp ha1 ha2
      have e62 : 62 * (nI k + 1) = nI (62 * (k + 1)) := by rw [nI_1]; exact nI_mul 62 (k + 1)
      have hSk := (hM.2.2.2.2.1 k hk).2 ck
      have hS0 : SAT a2 0 nb nr (K k).2.1 (K k).2.2.1 (K k).2.2.2 := SAT_cp hSk h8 h4 hSB.1 ha1
      have hcls : Ev l ad D ia 9 mX8_back [.ref (ad 0 0), .int (nI k)] s (some (.int ((K k).2.1.2 1))) (va_up (va_up s 1 v1) 7 v2) := by
        refine eX8_back ⟨_, _, ho, fun _ => ?_, fun h => absurd rfl h⟩
        rw [hcl, z4, z5, hfl]
        refine ⟨hin, z1, fun _ => ⟨hin, z1, z2, _, hv1, hin, z1, z3, _, hv2, ?_, rfl⟩, fun h => absurd h ck⟩
        rw [va_up_ne _ _ (by decide), va_up_self, hH1.n10]
      have hmod : Ev l ad D ia 9 mX9_back [.ref (ad 20 0), .int (nI k)] (va_up (va_up s 1 v1) 7 v2) (some (.int ((K k).2.1.2 1))) (va_up (va_up (va_up s 1 v1) 7 v2) 20 (setA (s 20) 0 a2)) := by
        refine eX9_back ⟨_, _, hi, fun _ => ⟨hin, ?_⟩, fun h => absurd h (by decide)⟩
        rw [hcl, h20, hmf, e62]
        refine ⟨fun _ => ⟨_, hcp, vp_in_nI (n := 41) (by decide) (by decide), ?_, rfl⟩, fun h => absurd h ck⟩
        rw [va_up_self, c41]
        have := (sat0.mp hS0).1.2.2 1 (by decide)
        rw [← this]
        rfl
      refine ⟨.int ((K k).2.1.2 1), _, _, hcls, hmod, nb, nr, (K k).2.1, tl, tb, flt, (K k).2.2.1, (K k).2.2.2, K, H, tn, ⟨hPB, hG.2.1, hSB, hG.2.2.2⟩, CR_20 (CR_s (CR_h hC ⟨0, 0, hH1⟩) hS2), ?_⟩
      · rw [va_up_self]
        exact MR_a hM (fun j hj => ha2 j (by omega)) hS0
  · rw [bool_f cx] at ho
    have hi := mv_in0 (l := l) (ad := ad) (D := D) (ia := ia) (d := 8) (s := s) x (n := 2) (z := 0) (c := 1) (by decide) (by decide)
    rw [bool_f cx] at hi
    exact ⟨.int (-1), _, _, eX8_back ⟨_, _, ho, fun h => absurd h (by decide), fun _ => ⟨rfl, rfl⟩⟩, eX9_back ⟨_, _, hi, fun h => absurd rfl h, fun _ => ⟨rfl, rfl⟩⟩, hbad⟩
end OF
