def sumR : Nat → Nat → (Nat → Int32) → Int32 → Int32
  | 0, _, _, a => a
  | k + 1, i, g, a => sumR k (i + 1) g (a + g i)
theorem sumR_eq {g h : Nat → Int32} : ∀ (k i : Nat) (a : Int32), (∀ j, i ≤ j → j < i + k → g j = h j) → sumR k i g a = sumR k i h a
  | 0, _, _, _ => rfl
  | k + 1, i, a, e => by
    show sumR k (i + 1) g (a + g i) = sumR k (i + 1) h (a + h i)
    rw [e i (by omega) (by omega)]
    exact sumR_eq k (i + 1) _ (fun j h1 h2 => e j (by omega) (by omega))
section OG
variable {l : Launch} {ad : ZA} {D : va_G} {ia : Nat → ClassId} {d nb nr r b o o1 : Nat} {s : ZS} {p : PS} {f m w : Int32}
theorem ev_tells (x : Int32) : Ev l ad D ia (d + 1) mX8_tellsBookOrNone [.int x] s (some (.int (b1 (x == 9 || inN x 8)))) s := by
  refine eX8_tellsBookOrNone ⟨fun h => ⟨?_, rfl⟩, fun h => ⟨_, _, ev_out0 (n := 7) x rfl (by decide), fun h2 => ⟨?_, rfl⟩, fun h2 => ⟨?_, rfl⟩⟩⟩
  · subst h; rfl
  · have e := b1_n.mp h2
    have e2 : inN x 8 = false := by simpa using e
    rw [e2, beq_false_of_ne h]; rfl
  · have e := b1_ne.mp h2
    have e2 : inN x 8 = true := by simpa using e
    rw [e2, Bool.or_true]; rfl
theorem c43 : (43 : Int32).toNatClampNeg = 43 := by decide
theorem op_see (hR : RR s) (x y z : Int32) : Op l ad D ia s mX8_see mX9_see [.int x, .int y, .int z] := by
  obtain ⟨nb, nr, p, tl, tb, flt, sn, sa, K, H, tn, hG, hC, hM⟩ := hR
  have hp := hG.1.1
  have h8 := hp.1.1
  have h4 := hp.1.2
  have hS := hG.2.2.1
  have c1 := hC.2.2.2.1
  have m1 := sat0.mp hM.2.2.2.1
  obtain ⟨f, w, hH⟩ := hC.1
  have hbad : RR s := ⟨nb, nr, p, tl, tb, flt, sn, sa, K, H, tn, hG, hC, hM⟩
  have ho := ev_out0 (l := l) (ad := ad) (D := D) (ia := ia) (d := 8) (s := s) (n := 20) x (y := 20) rfl (by decide)
  have hB := ev_hasR (l := l) (ad := ad) (D := D) (ia := ia) (d := 8) (s := s) (o := 1) rfl hH.n4 h4 y
  have hT := ev_tells (l := l) (ad := ad) (D := D) (ia := ia) (d := 7) (s := s) z
  have hi := fun s2 => mv_in0 (l := l) (ad := ad) (D := D) (ia := ia) (d := 8) (s := s2) x (n := 21) (z := 0) (c := 20) (by decide) (by decide)
  have hMB := fun s2 (h : (s2 20).1 4 = nI nr) => mv_isReader (l := l) (ad := ad) (D := D) (ia := ia) (d := 7) (s := s2) h h4 y
  have hi3 := fun s2 => mv_in9 (l := l) (ad := ad) (D := D) (ia := ia) (d := 8) (s := s2) z
  have hin : vp_in 43 186 := vp_in_nI (n := 43) (by decide) (by decide)
  by_cases cx : inN x 21 = true
  · rw [cx] at ho hi
    by_cases cy : inN y nr = true
    · rw [cy] at hB hMB
      by_cases cz : (z == 9 || inN z 8) = true
      · rw [cz] at hT
        have cz10 : inN z 10 = true := by
          by_cases e : z = 9
          · subst e
            decide
          · rw [beq_false_of_ne e, Bool.false_or] at cz
            obtain ⟨k, hk, rfl⟩ := inN_nI cz
            exact nI_inN (by omega) (by decide)
        have z8 : ¬ z = 8 := by
          intro e
          subst e
          exact absurd cz (by decide)
        rw [cz10] at hi3
        by_cases c6 : sn = 6
        · refine ⟨.int (-3), _, _, eX8_see ⟨_, _, ho, fun h => absurd rfl h, fun _ => ⟨_, _, hB, fun h => absurd h (by decide), fun _ => ⟨_, _, hT, fun _ => ⟨fun h => ?_, fun _ => ⟨rfl, rfl⟩⟩, fun h => absurd h (by decide)⟩⟩⟩, eX9_see ⟨_, _, hi _, fun h => absurd h (by decide), fun _ => ⟨_, _, hMB _ hM.1.2, fun h => absurd h (by decide), fun _ => ⟨_, _, hi3 _, fun h => absurd h (by decide), fun _ => ⟨fun _ => ⟨hin, fun h => ?_, fun _ => ⟨rfl, rfl⟩⟩, fun h => absurd h z8⟩⟩⟩⟩, hbad⟩
          · rw [c1.1, c6] at h
            exact absurd h (by decide)
          · rw [c43, m1.2.1, c6] at h
            exact absurd rfl h
        · have hsn : sn < 6 := by have := hS.1; omega
          obtain ⟨k, hk, rfl⟩ := inN_nI cx
          obtain ⟨r, hr, rfl⟩ := inN_nI cy
          have hcl := nI_clamp (show sn < 2 ^ 31 by omega)
          have hin6 := vp_in_nI hsn (show 6 < 2 ^ 31 by decide)
          let V1 : OV := setI (setA (setA (setA (s 7) 1 (upd ((s 7).2.2 1) sn (nI k))) 2 (upd ((s 7).2.2 2) sn (nI r))) 3 (upd ((s 7).2.2 3) sn (said z))) 0 (nI (sn + 1))
          have hput : Ev l ad D ia 8 mX6_put [.ref (ad 7 0), .int (nI k), .int (nI r), .int (said z)] s none (va_up s 7 V1) := by
            refine eX6_put (o := 7) rfl ⟨fun h => ?_, fun _ => ⟨by rw [c1.1]; exact hin6, fun s1 e1 => ?_⟩⟩
            · rw [c1.1] at h
              exact absurd h (nI_ge (a := sn) (b := 6) hsn (by decide))
            · rw [c1.1, hcl] at e1
              have e1 : s1 = va_up s 7 (setA (s 7) 1 (upd ((s 7).2.2 1) sn (nI k))) := e1
              subst e1
              have q1 : (va_up s 7 (setA (s 7) 1 (upd ((s 7).2.2 1) sn (nI k))) 7).1 0 = nI sn := by rw [va_up_self]; exact c1.1
              refine ⟨by rw [q1]; exact hin6, fun s2 e2 => ?_⟩
              rw [q1, hcl, stA_up] at e2
              subst e2
              have q2 : (va_up s 7 (setA (setA (s 7) 1 (upd ((s 7).2.2 1) sn (nI k))) 2 (upd ((setA (s 7) 1 (upd ((s 7).2.2 1) sn (nI k))).2.2 2) sn (nI r))) 7).1 0 = nI sn := by rw [va_up_self]; exact c1.1
              refine ⟨by rw [q2]; exact hin6, fun s3 e3 => ?_⟩
              rw [q2, hcl, stA_up] at e3
              subst e3
              intro s4 e4
              rw [va_up_self, stI_up] at e4
              refine ⟨rfl, ?_⟩
              rw [e4]
              have q3 : (s 7).1 0 + 1 = nI (sn + 1) := by rw [c1.1, nI_1]
              show va_up s 7 V1 = va_up s 7 (setI _ 0 ((s 7).1 0 + 1))
              rw [q3]
              rfl
          have h20 : va_up s 7 V1 20 = s 20 := va_up_ne _ _ (by decide)
          let A1 : Nat → Int32 := upd (upd (upd (upd ((s 20).2.2 0) (44 + 3 * sn) (nI k)) (44 + 3 * sn + 1) (nI r)) (44 + 3 * sn + 2) (said z)) 43 (nI (sn + 1))
          have hst : ∀ a, setA (setA (s 20) 0 a) 0 A1 = setA (s 20) 0 A1 := fun a => by unfold setA; rw [up_up]
          have hmod : Ev l ad D ia 9 mX9_see [.ref (ad 20 0), .int (nI k), .int (nI r), .int z] (va_up s 7 V1) (some (.int (nI (sn + 1)))) (va_up (va_up s 7 V1) 20 (setA (s 20) 0 A1)) := by
            have e44 : 44 + 3 * nI sn = nI (44 + 3 * sn) := by
              show nI 44 + nI 3 * nI sn = _
              rw [nI_mul, nI_add]
            have e45 : nI (44 + 3 * sn) + 1 = nI (44 + 3 * sn + 1) := nI_1 _
            have e46 : nI (44 + 3 * sn) + 2 = nI (44 + 3 * sn + 2) := nI_add _ 2
            refine eX9_see ⟨_, _, hi _, fun h => absurd h (by decide), fun _ => ⟨_, _, hMB _ (by rw [h20]; exact hM.1.2), fun h => absurd h (by decide), fun _ => ⟨_, _, hi3 _, fun h => absurd h (by decide), fun _ => ⟨fun _ => ?_, fun h => absurd h z8⟩⟩⟩⟩
            rw [h20, c43, m1.2.1, e44, e45, e46, nI_clamp (show 44 + 3 * sn < 2 ^ 31 by omega), nI_clamp (show 44 + 3 * sn + 1 < 2 ^ 31 by omega), nI_clamp (show 44 + 3 * sn + 2 < 2 ^ 31 by omega)]
            refine ⟨hin, fun _ => ⟨hin, vp_in_nI (by omega) (by omega), fun s1 e1 => ⟨vp_in_nI (by omega) (by omega), fun s2 e2 => ⟨_, _, mv_asKept z, vp_in_nI (by omega) (by omega), fun s3 e3 => ⟨hin, hin, fun s4 e4 => ⟨hin, ?_⟩⟩⟩⟩⟩, fun h => absurd ((nI_eq (a := sn) (b := 6) (by omega) (by omega)).mp h) c6⟩
            have e1 : s1 = va_up (va_up s 7 V1) 20 (setA (s 20) 0 (upd ((s 20).2.2 0) (44 + 3 * sn) (nI k))) := by rw [e1]; unfold stA; rw [h20]
            subst e1
            rw [stA_up] at e2
            subst e2
            rw [stA_up] at e3
            subst e3
            rw [stA_up, va_up_self] at e4
            have q43 : (setA (setA (setA (s 20) 0 (upd ((s 20).2.2 0) (44 + 3 * sn) (nI k))) 0 (upd ((setA (s 20) 0 (upd ((s 20).2.2 0) (44 + 3 * sn) (nI k))).2.2 0) (44 + 3 * sn + 1) (nI r))) 0 (upd ((setA (setA (s 20) 0 (upd ((s 20).2.2 0) (44 + 3 * sn) (nI k))) 0 (upd ((setA (s 20) 0 (upd ((s 20).2.2 0) (44 + 3 * sn) (nI k))).2.2 0) (44 + 3 * sn + 1) (nI r))).2.2 0) (44 + 3 * sn + 2) (said z))).2.2 0 43 = nI sn := by
              simp only [setA, va_up_self]
              rw [upd_ne _ _ (by omega), upd_ne _ _ (by omega), upd_ne _ _ (by omega)]
              exact m1.2.1
            rw [q43, nI_1] at e4
            have e4 : s4 = va_up (va_up s 7 V1) 20 (setA (s 20) 0 A1) := by
              rw [e4]
              congr 1
              unfold setA
              simp only [up_up, va_up_self]
              rfl
            subst e4
            refine ⟨?_, rfl⟩
            rw [va_up_self]
            rfl
          refine ⟨.int (nI (sn + 1)), _, _, eX8_see ⟨_, _, ho, fun h => absurd rfl h, fun _ => ⟨_, _, hB, fun h => absurd h (by decide), fun _ => ⟨_, _, hT, fun _ => ⟨fun _ => ⟨_, _, ev_bookSaid z, _, hput, ?_, rfl⟩, fun h => ?_⟩, fun h => absurd h (by decide)⟩⟩⟩, hmod, nb, nr, p, tl, tb, flt, sn + 1, va_up sa sn (fun j => if j = 0 then nI k else if j = 1 then nI r else said z), K, H, tn, ⟨hG.1, hG.2.1, ⟨by omega, fun i hi => ?_⟩, hG.2.2.2⟩, CR_20 (CR_s hC ⟨rfl, fun i j hi hj => ?_⟩), ?_⟩
          · rw [va_up_self]
            rfl
          · rw [c1.1] at h
            exact absurd (nI_lt (a := sn) (b := 6) hsn (by decide)) h
          · by_cases e : i = sn
            · subst e
              rw [va_up_self]
              exact ⟨⟨k, by omega, by omega, rfl⟩, r, hr, rfl⟩
            · rw [va_up_ne _ _ e]
              exact hS.2 i (by omega)
          · by_cases e : i = sn
            · subst e
              rw [va_up_self]
              rcases (show j = 0 ∨ j = 1 ∨ j = 2 by omega) with rfl | rfl | rfl
              · exact upd_self _ _ _
              · exact upd_self _ _ _
              · exact upd_self _ _ _
            · rw [va_up_ne _ _ e]
              have := c1.2 i j (by omega) hj
              rw [← this]
              rcases (show j = 0 ∨ j = 1 ∨ j = 2 by omega) with rfl | rfl | rfl
              · exact upd_ne _ _ e
              · exact upd_ne _ _ e
              · exact upd_ne _ _ e
          · rw [va_up_self]
            refine MR_a hM (fun j hj => ?_) (sat0.mpr ⟨?_, upd_self _ _ _, fun i j hi hj => ?_⟩)
            · show upd (upd (upd (upd _ _ _) _ _) _ _) _ _ j = _
              rw [upd_ne _ _ (by omega), upd_ne _ _ (by omega), upd_ne _ _ (by omega), upd_ne _ _ (by omega)]
            · obtain ⟨n1, n2, n3⟩ := m1.1
              have e : ∀ i, i < 43 → A1 i = (s 20).2.2 0 i := fun i hi => by
                show upd (upd (upd (upd _ _ _) _ _) _ _) _ _ i = _
                rw [upd_ne _ _ (by omega), upd_ne _ _ (by omega), upd_ne _ _ (by omega), upd_ne _ _ (by omega)]
              exact ⟨fun c hc b hb => by rw [e _ (by omega)]; exact n1 c hc b hb, fun c hc b hb => by rw [e _ (by omega)]; exact n2 c hc b hb, fun j hj => by rw [e _ (by omega)]; exact n3 j hj⟩
            · show upd (upd (upd (upd _ _ _) _ _) _ _) _ _ _ = _
              by_cases e : i = sn
              · subst e
                rw [va_up_self]
                rcases (show j = 0 ∨ j = 1 ∨ j = 2 by omega) with rfl | rfl | rfl
                · rw [upd_ne _ _ (by omega), upd_ne _ _ (by omega), upd_ne _ _ (by omega)]
                  exact upd_self _ _ _
                · rw [upd_ne _ _ (by omega), upd_ne _ _ (by omega)]
                  exact upd_self _ _ _
                · rw [upd_ne _ _ (by omega)]
                  exact upd_self _ _ _
              · rw [va_up_ne _ _ e, upd_ne _ _ (by omega), upd_ne _ _ (by omega), upd_ne _ _ (by omega), upd_ne _ _ (by omega)]
                exact m1.2.2 i j (by omega) hj
      · rw [bool_f cz] at hT
        refine ⟨.int (-1), _, _, eX8_see ⟨_, _, ho, fun h => absurd rfl h, fun _ => ⟨_, _, hB, fun h => absurd h (by decide), fun _ => ⟨_, _, hT, fun h => absurd rfl h, fun _ => ⟨rfl, rfl⟩⟩⟩⟩, eX9_see ⟨_, _, hi _, fun h => absurd h (by decide), fun _ => ⟨_, _, hMB _ hM.1.2, fun h => absurd h (by decide), fun _ => ⟨_, _, hi3 _, fun _ => ⟨rfl, rfl⟩, fun h => ⟨fun h8 => ?_, fun _ => ⟨rfl, rfl⟩⟩⟩⟩⟩, hbad⟩
        exfalso
        obtain ⟨k, hk, rfl⟩ := inN_nI (b1_n.mp h)
        apply cz
        by_cases e9 : k = 9
        · subst e9
          decide
        · have : ¬ k = 8 := fun e => h8 (by rw [e]; rfl)
          rw [nI_inN (show k < 8 by omega) (by decide), Bool.or_true]
    · rw [bool_f cy] at hB hMB
      exact ⟨.int (-1), _, _, eX8_see ⟨_, _, ho, fun h => absurd rfl h, fun _ => ⟨_, _, hB, fun _ => ⟨rfl, rfl⟩, fun h => absurd rfl h⟩⟩, eX9_see ⟨_, _, hi _, fun h => absurd h (by decide), fun _ => ⟨_, _, hMB _ hM.1.2, fun _ => ⟨rfl, rfl⟩, fun h => absurd rfl h⟩⟩, hbad⟩
  · rw [bool_f cx] at ho hi
    exact ⟨.int (-1), _, _, eX8_see ⟨_, _, ho, fun _ => ⟨rfl, rfl⟩, fun h => absurd h (by decide)⟩, eX9_see ⟨_, _, hi _, fun _ => ⟨rfl, rfl⟩, fun h => absurd rfl h⟩, hbad⟩
theorem ev_imagesTaken {K : KT} (hK : ∀ k, k < 2 → (s (10 + k)).1 0 = (K k).1) : Ev l ad D ia d mX8_imagesTaken [.ref (ad 0 0)] s (some (.int (((if (K 0).1 = 0 then 0 else 1) : Int32) + (if (K 1).1 = 0 then 0 else 1)))) s := by
  refine eX8_imagesTaken (fun C hC => ?_)
  have k0 := hK 0 (by decide)
  have k1 := hK 1 (by decide)
  have h2 : ∀ a : Int32, Z l ad D ia C (some (.int a)) s 4 [(0, .ref (ad 0 0)), (1, .int a), (2, .int 2)] [] s := fun a => bX8_imagesTaken_4 hC ⟨fun _ => ⟨rfl, rfl⟩, fun h => absurd (by decide) h⟩
  have h1 : ∀ a : Int32, Z l ad D ia C (some (.int (a + (if (K 1).1 = 0 then 0 else 1)))) s 4 [(0, .ref (ad 0 0)), (1, .int a), (2, .int 1)] [] s := by
    intro a
    refine bX8_imagesTaken_4 hC ⟨fun h => absurd h (by decide), fun _ => ⟨vp_in_nI (n := 1) (by decide) (by decide), by decide, fun h => ?_, fun h => ?_⟩⟩
    · have h : (s (10 + 1)).1 0 = 0 := h
      rw [k1] at h
      rw [if_pos h, Int32.add_zero]
      exact h2 a
    · have h : ¬ (s (10 + 1)).1 0 = 0 := h
      rw [k1] at h
      rw [if_neg h]
      exact h2 (a + 1)
  refine bX8_imagesTaken_4 hC ⟨fun h => absurd h (by decide), fun _ => ⟨vp_in_nI (n := 0) (by decide) (by decide), by decide, fun h => ?_, fun h => ?_⟩⟩
  · have h : (s (10 + 0)).1 0 = 0 := h
    rw [k0] at h
    rw [if_pos h]
    exact h1 0
  · have h : ¬ (s (10 + 0)).1 0 = 0 := h
    rw [k0] at h
    rw [if_neg h]
    exact h1 (0 + 1)
theorem ev_sumOf {o k n : Nat} (hz : zis o k 0 n) {N : Nat} (hN : N ≤ n) (hn : n < 2 ^ 31) : Ev l ad D ia d mX8_sumOf [.ref (ad o (k + 1)), .int (nI N)] s (some (.int (sumR N 0 ((s o).2.2 k) 0))) s := by
  refine eX8_sumOf hz (fun C hC => ?_)
  have h : ∀ (q i : Nat) (a : Int32), i + q = N → Z l ad D ia C (some (.int (sumR q i ((s o).2.2 k) a))) s 4 [(0, .ref (ad o (k + 1))), (1, .int (nI N)), (2, .int a), (3, .int (nI i))] [] s := by
    intro q
    induction q with
    | zero =>
      intro i a hk
      exact bX8_sumOf_4 hz hC ⟨fun _ => ⟨rfl, rfl⟩, fun h => absurd (nI_le (a := N) (b := i) (by omega) (by omega)) h⟩
    | succ q ih =>
      intro i a hk
      refine bX8_sumOf_4 hz hC ⟨fun h => absurd h (nI_ge (a := i) (b := N) (by omega) (by omega)), fun _ => ⟨vp_in_nI (by omega) (by omega), ?_⟩⟩
      rw [nI_clamp (by omega), nI_1]
      exact ih (i + 1) _ (by omega)
  exact h N 0 0 (by omega)
def coV (nb nr : Nat) (p : PS) (tl sn : Nat) (K : KT) (H : HT) (x : Int32) : Int32 := if x = 0 then nI sn else if x = 1 then ((if (K 0).1 = 0 then 0 else 1) + (if (K 1).1 = 0 then 0 else 1)) else if x = 2 then nI tl else if x = 3 then (if (H 0).1 = -4 then -4 else (H 0).2.1) else if x = 4 then sumR nb 0 (p.1 1) 0 else if x = 5 then sumR nr 0 (p.1 5) 0 else -1
theorem op_count (hR : RR s) (x : Int32) : Op l ad D ia s mX8_count mX9_count [.int x] := by
  obtain ⟨nb, nr, p, tl, tb, flt, sn, sa, K, H, tn, hG, hC, hM⟩ := hR
  have hp := hG.1.1
  have h8 := hp.1.1
  have h4 := hp.1.2
  obtain ⟨f, w, hH⟩ := hC.1
  have hK : ∀ k, k < 2 → (s (10 + k)).1 0 = (K k).1 := fun k hk => (hC.2.2.2.2.1 k hk).1
  have hH0 := hC.2.2.2.2.2 0 (by decide)
  obtain ⟨v, hev, hMM, hkn⟩ := mv_starts (l := l) (ad := ad) (D := D) (ia := ia) (d := 8) hM.1 hM.2.2.2.1 h8 h4
  have hMM2 : MM (va_up s 20 v 20) nb nr p (v.1 18) (v.1 19) (v.1 20) := by rw [va_up_self]; exact hMM
  have hMR2 : MR (va_up s 20 v 20) nb nr p tl tb flt sn sa K H tn := by rw [va_up_self]; exact MR_km hkn.M hM
  have m1 := sat0.mp hMR2.2.2.2.1
  have mK := hMR2.2.2.2.2.1
  have mH := hMR2.2.2.2.2.2 0 (by decide)
  have hmod : Ev l ad D ia 9 mX9_count [.ref (ad 20 0), .int x] s (some (.int (coV nb nr p tl sn K H x))) (va_up s 20 v) := by
    refine eX9_count (fun C hZ => ⟨_, hev, ?_⟩)
    have h39 : ∀ (q i : Nat) (a : Int32), i + q = nr → sumR q i (p.1 5) a = sumR nr 0 (p.1 5) 0 → Z l ad D ia C (some (.int (coV nb nr p tl sn K H x))) (va_up s 20 v) 39 [(0, .ref (ad 20 0)), (1, .int x), (2, .int (sumR nb 0 (p.1 1) 0)), (3, .int a), (4, .int (nI i))] [] (va_up s 20 v) := by
      intro q
      induction q with
      | zero =>
        intro i a hk hs
        have hs : a = sumR nr 0 (p.1 5) 0 := hs
        refine bX9_count_39 hZ ⟨fun _ => ⟨fun h => ⟨vp_in_nI (n := 43) (by decide) (by decide), ?_, rfl⟩, fun h => ⟨vp_in_nI (n := 0) (by decide) (by decide), _, _, mv_flag _, vp_in_nI (n := 1) (by decide) (by decide), _, _, mv_flag _, ?_, rfl⟩, fun h => ⟨?_, rfl⟩, fun h => ⟨vp_in_nI (n := 0) (by decide) (by decide), fun h2 => ⟨vp_in_nI (n := 0) (by decide) (by decide), ?_, rfl⟩, fun h2 => ⟨?_, rfl⟩⟩, fun h => ⟨?_, rfl⟩, fun h => ⟨?_, rfl⟩, fun h => ⟨?_, rfl⟩⟩, fun h => ?_⟩
        · subst h; rw [c43, m1.2.1]; rfl
        · subst h
          have e0 : (va_up s 20 v 20).2.2 2 (0 : Int32).toNatClampNeg = (K 0).1 := (mK 0 (by decide)).1
          have e1 : (va_up s 20 v 20).2.2 2 (1 : Int32).toNatClampNeg = (K 1).1 := (mK 1 (by decide)).1
          rw [e0, e1]; rfl
        · subst h; rw [hMR2.2.1.1]; rfl
        · subst h
          have e0 : (va_up s 20 v 20).2.2 29 (0 : Int32).toNatClampNeg = (H 0).1 := mH.1
          have e1 : (va_up s 20 v 20).2.2 30 (0 : Int32).toNatClampNeg = (H 0).2.1 := mH.2.1
          rw [e0] at h2
          rw [e1]
          show some (Value.int (if (H 0).1 = -4 then -4 else (H 0).2.1)) = _
          rw [if_neg h2]
        · subst h
          have e0 : (va_up s 20 v 20).2.2 29 (0 : Int32).toNatClampNeg = (H 0).1 := mH.1
          rw [e0] at h2
          show some (Value.int (if (H 0).1 = -4 then -4 else (H 0).2.1)) = _
          rw [if_pos h2]
        · subst h; rfl
        · subst h; rw [hs]; rfl
        · unfold coV; rw [if_neg h.1, if_neg h.2.1, if_neg h.2.2.1, if_neg h.2.2.2.1, if_neg h.2.2.2.2.1, if_neg h.2.2.2.2.2]
        · rw [hMM2.1.2] at h
          exact absurd (nI_le (a := nr) (b := i) (by omega) (by omega)) h
      | succ q ih =>
        intro i a hk hs
        refine bX9_count_39 hZ ⟨fun h => ?_, fun _ => ⟨_, _, mv_ofR (c := 2) hMM2 hp (by decide) (by omega), ?_⟩⟩
        · rw [hMM2.1.2] at h
          exact absurd h (nI_ge (by omega) (by omega))
        · rw [nI_1]
          exact ih (i + 1) _ (by omega) hs
    have h11 : ∀ (q i : Nat) (a : Int32), i + q = nb → sumR q i (p.1 1) a = sumR nb 0 (p.1 1) 0 → Z l ad D ia C (some (.int (coV nb nr p tl sn K H x))) (va_up s 20 v) 11 [(0, .ref (ad 20 0)), (1, .int x), (2, .int a), (3, .int 0), (4, .int (nI i))] [] (va_up s 20 v) := by
      intro q
      induction q with
      | zero =>
        intro i a hk hs
        have hs : a = sumR nb 0 (p.1 1) 0 := hs
        refine bX9_count_11 hZ ⟨fun _ => ?_, fun h => ?_⟩
        · rw [hs]
          exact h39 nr 0 0 (by omega) rfl
        · rw [hMM2.1.1] at h
          exact absurd (nI_le (a := nb) (b := i) (by omega) (by omega)) h
      | succ q ih =>
        intro i a hk hs
        refine bX9_count_11 hZ ⟨fun h => ?_, fun _ => ⟨_, _, mv_of (c := 1) hMM2 hp (by decide) (by omega), ?_⟩⟩
        · rw [hMM2.1.1] at h
          exact absurd h (nI_ge (by omega) (by omega))
        · rw [nI_1]
          exact ih (i + 1) _ (by omega) hs
    exact h11 nb 0 0 (by omega) rfl
  have s1 := ev_sumOf (l := l) (ad := ad) (D := D) (ia := ia) (d := 8) (s := s) (o := 1) (k := 2) (n := 8) (zis_of rfl rfl) h8 (by decide)
  have s2 := ev_sumOf (l := l) (ad := ad) (D := D) (ia := ia) (d := 8) (s := s) (o := 1) (k := 7) (n := 4) (zis_of rfl rfl) h4 (by decide)
  rw [sumR_eq (h := p.1 1) nb 0 0 (fun j _ hj => hH.g2 (by omega))] at s1
  rw [sumR_eq (h := p.1 5) nr 0 0 (fun j _ hj => hH.g7 (by omega))] at s2
  refine ⟨.int (coV nb nr p tl sn K H x), _, _, eX8_count ⟨fun h => ⟨?_, rfl⟩, fun h => ⟨_, _, ev_imagesTaken hK, ?_, rfl⟩, fun h => ⟨?_, rfl⟩, fun h => ⟨vp_in_nI (n := 0) (by decide) (by decide), by decide, fun h2 => ⟨vp_in_nI (n := 0) (by decide) (by decide), by decide, ?_, rfl⟩, fun h2 => ⟨?_, rfl⟩⟩, fun h => ⟨_, _, by rw [hH.n0]; exact s1, ?_, rfl⟩, fun h => ⟨_, _, by rw [hH.n4]; exact s2, ?_, rfl⟩, fun h => ⟨?_, rfl⟩⟩, hmod, nb, nr, p, tl, tb, flt, sn, sa, K, H, tn, hG, CR_20 hC, hMR2⟩
  · subst h; rw [hC.2.2.2.1.1]; rfl
  · subst h; rfl
  · subst h; rw [hC.2.1.1]; rfl
  · subst h
    have e0 : (s (12 + (0 : Int32).toNatClampNeg)).1 0 = (H 0).1 := hH0.1
    have e1 : (s (12 + (0 : Int32).toNatClampNeg)).1 1 = (H 0).2.1 := hH0.2.1
    rw [e0] at h2
    rw [e1]
    show some (Value.int (if (H 0).1 = -4 then -4 else (H 0).2.1)) = _
    rw [if_neg h2]
  · subst h
    have e0 : (s (12 + (0 : Int32).toNatClampNeg)).1 0 = (H 0).1 := hH0.1
    rw [e0] at h2
    show some (Value.int (if (H 0).1 = -4 then -4 else (H 0).2.1)) = _
    rw [if_pos h2]
  · subst h; rfl
  · subst h; rfl
  · unfold coV; rw [if_neg h.1, if_neg h.2.1, if_neg h.2.2.1, if_neg h.2.2.2.1, if_neg h.2.2.2.2.1, if_neg h.2.2.2.2.2]
end OG
