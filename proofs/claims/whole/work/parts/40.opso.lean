/-- which book had better be at the knee -/
def kst (t : Int32) (b : Nat) (o : Option (Nat × Nat)) : Option (Nat × Nat) := if t = -4 then o else match o with
  | none => some (b, bk t)
  | some q => if q.2 ≤ bk t then o else some (b, bk t)
def knL (p : PS) (r : Nat) : Nat → Nat → Option (Nat × Nat) → Option (Nat × Nat)
  | 0, _, o => o
  | k + 1, b, o => knL p r k (b + 1) (kst (tDp (pr p 1 b 0) r 60 0) b o)
def kf (o : Option (Nat × Nat)) : Int32 := match o with
  | none => -4
  | some q => nI q.1
def ks (c : Nat) (o : Option (Nat × Nat)) : Int32 := match o with
  | none => nI c
  | some q => nI q.2
def knX (y : Int32) (o : Option (Nat × Nat)) : Int32 := match o with
  | none => -4
  | some q => if y = 0 then nI q.1 else nI q.2
def okO (o : Option (Nat × Nat)) : Prop := ∀ q, o = some q → q.1 < 8 ∧ q.2 ≤ 60
theorem tD_rng {h ld : Nat → Int32} {k br : Int32} : ∀ (n j : Nat) (q : Int32 × Int32), tD h ld k br n j q = -4 ∨ ∃ i, i ≤ n + j ∧ tD h ld k br n j q = nI i
  | 0, j, q => by
    unfold tD
    by_cases c : q.1 = -4
    · rw [if_pos c]; exact Or.inr ⟨j, by omega, rfl⟩
    · rw [if_neg c]; exact Or.inl rfl
  | n + 1, j, q => by
    unfold tD
    by_cases c : q.1 = -4
    · rw [if_pos c]; exact Or.inr ⟨j, by omega, rfl⟩
    · rw [if_neg c]
      rcases tD_rng (h := h) (ld := ld) (k := k) (br := br) n (j + 1) ((go 9 h ld k br q.1 q.2 0).1, (go 9 h ld k br q.1 q.2 0).2.1) with e | ⟨i, hi, e⟩
      · exact Or.inl e
      · exact Or.inr ⟨i, by omega, e⟩
theorem kst_step {t : Int32} {b c : Nat} {o : Option (Nat × Nat)} (hc : 61 ≤ c) (hc2 : c < 2 ^ 31) (ho : okO o) (hb : b < 8) (ht : t = -4 ∨ ∃ i, i ≤ 60 ∧ t = nI i) : okO (kst t b o) ∧ (t = -4 → kst t b o = o) ∧ (¬ t = -4 → ks c o ≤ t → kst t b o = o) ∧ (¬ t = -4 → ¬ ks c o ≤ t → kf (kst t b o) = nI b ∧ ks c (kst t b o) = t ∧ ¬ kst t b o = none) := by
  rcases ht with e | ⟨i, hi, e⟩
  · have h0 : kst t b o = o := by unfold kst; rw [if_pos e]
    exact ⟨by rw [h0]; exact ho, fun _ => h0, fun h => absurd e h, fun h => absurd e h⟩
  · subst e
    have hn : ¬ nI i = -4 := nI_n4 (by omega)
    have hbk : bk (nI i) = i := bk_nI (by omega)
    cases o with
    | none =>
      have h0 : kst (nI i) b none = some (b, i) := by unfold kst; rw [if_neg hn, hbk]
      rw [h0]
      refine ⟨fun q hq => ?_, fun h => absurd h hn, fun _ h => ?_, fun _ _ => ⟨rfl, rfl, fun h => by cases h⟩⟩
      · cases hq
        exact ⟨hb, hi⟩
      · exact absurd ((nI_leI hc2 (by omega)).mp h) (by omega)
    | some q =>
      have hq := ho q rfl
      by_cases c1 : q.2 ≤ i
      · have h0 : kst (nI i) b (some q) = some q := by
          unfold kst
          rw [if_neg hn, hbk]
          show (if q.2 ≤ i then some q else some (b, i)) = _
          rw [if_pos c1]
        rw [h0]
        exact ⟨ho, fun h => absurd h hn, fun _ _ => rfl, fun _ h => absurd (nI_le c1 (by omega)) h⟩
      · have h0 : kst (nI i) b (some q) = some (b, i) := by
          unfold kst
          rw [if_neg hn, hbk]
          show (if q.2 ≤ i then some q else some (b, i)) = _
          rw [if_neg c1]
        rw [h0]
        refine ⟨fun q2 hq2 => ?_, fun h => absurd h hn, fun _ h => ?_, fun _ _ => ⟨rfl, rfl, fun h => by cases h⟩⟩
        · cases hq2
          exact ⟨hb, hi⟩
        · exact absurd ((nI_leI (by omega) (by omega)).mp h) c1
theorem knX_none {y : Int32} {o : Option (Nat × Nat)} {c : Nat} (ho : okO o) : (kf o = -4 → knX y o = -4) ∧ (¬ kf o = -4 → ¬ y = 0 → knX y o = ks c o) ∧ (¬ kf o = -4 → y = 0 → knX y o = kf o) := by
  cases o with
  | none => exact ⟨fun _ => rfl, fun h => absurd rfl h, fun h => absurd rfl h⟩
  | some q =>
    have := (ho q rfl).1
    refine ⟨fun h => absurd h (nI_n4 (by omega)), fun _ h => ?_, fun _ h => ?_⟩
    · show (if y = 0 then nI q.1 else nI q.2) = nI q.2
      rw [if_neg h]
    · show (if y = 0 then nI q.1 else nI q.2) = nI q.1
      rw [if_pos h]
section OO
variable {l : Launch} {ad : ZA} {D : va_G} {ia : Nat → ClassId} {d nb nr r b o o1 : Nat} {s : ZS} {p : PS} {f m w : Int32}
theorem ev_kneeL (hr : r < nr) (y : Int32) (hH1 : HQ (s 1) nb nr p) (hp : PI nb nr p) : ∀ (k b : Nat) (u : OV) (oo : Option (Nat × Nat)), b + k = nb → okO oo → ∃ u2, ∀ C : ZC, Zok ad D ia C (d + 5) cX8_knee 7 RX8 (some .int) → Z l ad D ia C (some (.int (knX y (knL p r k b oo)))) (va_up s 2 u2) 32 [(0, .ref (ad 0 0)), (1, .int (nI r)), (2, .int y), (3, .int (kf oo)), (4, .int (ks 61 oo)), (5, .int (nI b))] [] (va_up s 2 u) := by
  have h8 := hp.1.1
  have h4 := hp.1.2
  have hH1u : ∀ u, (va_up s 2 u 1).1 0 = nI nb := fun u => by
    obtain ⟨f, w, hH⟩ := hH1
    rw [va_up_ne _ _ (by decide)]
    exact hH.n0
  intro k
  induction k with
  | zero =>
    intro b u oo hb ho
    have hx := knX_none (y := y) (c := 61) ho
    refine ⟨u, fun C hC => bX8_knee_32 hC ⟨fun _ => ⟨fun h => ⟨?_, rfl⟩, fun h => ⟨fun h2 => ⟨?_, rfl⟩, fun h2 => ⟨?_, rfl⟩⟩⟩, fun h => ?_⟩⟩
    · rw [h]
      exact congrArg (fun q => some (Value.int q)) (hx.1 h)
    · exact congrArg (fun q => some (Value.int q)) (hx.2.1 h h2)
    · exact congrArg (fun q => some (Value.int q)) (hx.2.2 h h2)
    · rw [hH1u] at h
      exact absurd (nI_le (by omega) (by omega)) h
  | succ k ih =>
    intro b u oo hb ho
    have hq : HQ (va_up s 2 u 1) nb nr p := by rw [va_up_ne _ _ (by decide)]; exact hH1
    obtain ⟨v1, hb1, hT⟩ := ev_beginTrial (l := l) (ad := ad) (D := D) (ia := ia) (d := d + 2) (s := va_up s 2 u) hq h8 h4
    rw [up_up] at hb1
    have hT1 := hT.w2 b 0
    have hT2 : HR (va_up s 2 (setA v1 2 (upd (v1.2.2 2) b 0)) 2) nb nr (pr p 1 b 0) 0 0 := by rw [va_up_self]; exact hT1
    obtain ⟨v2, hb2⟩ := ev_daysTillDone (l := l) (ad := ad) (D := D) (ia := ia) (d := d) (o := 2) (N := 60) rfl hr (by omega) hT2 (PI_h hp ⟨0, by omega, rfl⟩)
    rw [up_up] at hb2
    have hin := vp_in_nI (show b < 8 by omega) (show 8 < 2 ^ 31 by decide)
    have hst := kst_step (t := tDp (pr p 1 b 0) r 60 0) (b := b) (c := 61) (by omega) (by omega) ho (by omega) (tD_rng 60 0 _)
    obtain ⟨u2, hz⟩ := ih (b + 1) v2 (kst (tDp (pr p 1 b 0) r 60 0) b oo) (by omega) hst.1
    refine ⟨u2, fun C hC => bX8_knee_32 hC ⟨fun h => ?_, fun _ => ⟨_, hb1, hin, fun s1 e1 => ⟨tDp (pr p 1 b 0) r 60 0, va_up s 2 v2, ?_, fun h => ?_, fun h => ⟨fun h2 => ?_, fun h2 => ?_⟩⟩⟩⟩⟩
    · rw [hH1u] at h
      exact absurd h (nI_ge (by omega) (by omega))
    · rw [nI_clamp (by omega), stA_up] at e1
      subst e1
      exact hb2
    · have hz := hz C hC
      rw [hst.2.1 h] at hz
      rw [nI_1]
      show Z l ad D ia C (some (.int (knX y (knL p r k (b + 1) (kst (tDp (pr p 1 b 0) r 60 0) b oo))))) _ _ _ _ _
      rw [hst.2.1 h]
      exact hz
    · have hz := hz C hC
      rw [hst.2.2.1 h h2] at hz
      rw [nI_1]
      show Z l ad D ia C (some (.int (knX y (knL p r k (b + 1) (kst (tDp (pr p 1 b 0) r 60 0) b oo))))) _ _ _ _ _
      rw [hst.2.2.1 h h2]
      exact hz
    · have hz := hz C hC
      obtain ⟨g1, g2, -⟩ := hst.2.2.2 h h2
      rw [g1, g2] at hz
      rw [nI_1]
      exact hz
theorem mv_kneeL {s0 : ZS} {nb nr r : Nat} {p : PS} {tl : Nat} {tb : Nat → Int32} {flt : Int32} {sn : Nat} {sa : Nat → Nat → Int32} {K : KT} {H : HT} {tn : Int32} (hM : MR (s0 20) nb nr p tl tb flt sn sa K H tn) (hr : r < nr) (y : Int32) (hp : PI nb nr p) : ∀ (k b : Nat) (u : OV) (oo : Option (Nat × Nat)), b + k = nb → okO oo → KM (s0 20) u → ∃ u2, KM (s0 20) u2 ∧ ∀ C : ZC, Zok ad D ia C (d + 6) cX9_knee 8 RX9 (some .int) → Z l ad D ia C (some (.int (knX y (knL p r k b oo)))) (va_up s 20 u2) 28 [(0, .ref (ad 20 0)), (1, .int (nI r)), (2, .int y), (3, .int (ks 1000000 oo)), (4, .int (kf oo)), (5, .int (nI b))] [] (va_up s 20 u) := by
  have h8 := hp.1.1
  have h4 := hp.1.2
  have hnb : ∀ u, KM (s0 20) u → (va_up s 20 u 20).1 3 = nI nb := fun u hu => by
    rw [va_up_self, hu.1 3 (by omega)]
    exact hM.1.1
  intro k
  induction k with
  | zero =>
    intro b u oo hb ho hu
    have hx := knX_none (y := y) (c := 1000000) ho
    refine ⟨u, hu, fun C hC => bX9_knee_28 hC ⟨fun _ => ⟨fun h => ⟨fun h2 => ⟨?_, rfl⟩, fun h2 => ⟨?_, rfl⟩⟩, fun h => ⟨?_, rfl⟩⟩, fun h => ?_⟩⟩
    · exact congrArg (fun q => some (Value.int q)) (hx.2.1 h h2)
    · exact congrArg (fun q => some (Value.int q)) (hx.2.2 h h2)
    · exact congrArg (fun q => some (Value.int q)) (hx.1 h)
    · rw [hnb u hu] at h
      exact absurd (nI_le (by omega) (by omega)) h
  | succ k ih =>
    intro b u oo hb ho hu
    have hbn : b < nb := by omega
    obtain ⟨v0, e0, hM0, hk0, -⟩ := mv_begin (l := l) (ad := ad) (D := D) (ia := ia) (d := d + 5) (s := s0) (s1 := va_up s 20 u) hM (by rw [va_up_self]; exact hu) h8 h4
    rw [up_up] at e0
    have hM1 := hM0.now (hM0.2.1.bw h8 h4 (c := 1) (by decide) hbn 0)
    have hk1 : KN v0 (setA v0 1 (upd (v0.2.2 1) (3 * b + 1) 0)) := KN.A _ _ (by omega) (fun _ _ => rfl)
    have hM1b : MM (va_up s 20 (setA v0 1 (upd (v0.2.2 1) (3 * b + 1) 0)) 20) nb nr (pr p 1 b 0) (v0.1 18) (v0.1 19) (v0.1 20) := by rw [va_up_self]; exact hM1
    obtain ⟨v2, e2, hk2⟩ := mv_daysTo (l := l) (ad := ad) (D := D) (ia := ia) (d := d) hr hM1b (PI_h hp ⟨0, by omega, rfl⟩)
    rw [up_up] at e2
    rw [va_up_self] at hk2
    have hkm : KM (s0 20) v2 := (hk0.tr hk1.M).tr hk2.M
    have ei : 3 * nI b + 1 = nI (3 * b + 1) := ixB b 1
    have hst := kst_step (t := tDp (pr p 1 b 0) r 60 0) (b := b) (c := 1000000) (by omega) (by omega) ho (by omega) (tD_rng 60 0 _)
    obtain ⟨u2, hk3, hz⟩ := ih (b + 1) v2 (kst (tDp (pr p 1 b 0) r 60 0) b oo) (by omega) hst.1 hkm
    have eL : knL p r (k + 1) b oo = knL p r k (b + 1) (kst (tDp (pr p 1 b 0) r 60 0) b oo) := rfl
    rw [eL]
    refine ⟨u2, hk3, fun C hC => bX9_knee_28 hC ⟨fun h => ?_, fun _ => ⟨_, e0, ?_, fun s1 e1 => ⟨tDp (pr p 1 b 0) r 60 0, va_up s 20 v2, ?_, fun h => ?_, fun h => ⟨fun h2 => ?_, fun h2 => ⟨fun h3 => absurd h3 (by decide), fun _ => ⟨fun h3 => absurd h3 (by decide), fun _ => ?_⟩⟩⟩⟩⟩⟩⟩
    · rw [hnb u hu] at h
      exact absurd h (nI_ge (by omega) (by omega))
    · rw [ei]
      exact vp_in_nI (by omega) (by omega)
    · rw [ei, nI_clamp (by omega), stA_up] at e1
      subst e1
      exact e2
    · refine bX9_knee_77 hC ⟨fun _ => ⟨fun _ => ?_, fun h3 => absurd rfl h3⟩, fun h3 => absurd rfl h3⟩
      have hz := hz C hC
      rw [hst.2.1 h] at hz ⊢
      rw [nI_1]
      exact hz
    · refine bX9_knee_77 hC ⟨fun _ => ⟨fun _ => ?_, fun h3 => absurd rfl h3⟩, fun h3 => absurd rfl h3⟩
      have hz := hz C hC
      rw [hst.2.2.1 h h2] at hz ⊢
      rw [nI_1]
      exact hz
    · have hz := hz C hC
      obtain ⟨g1, g2, -⟩ := hst.2.2.2 h h2
      rw [g1, g2] at hz
      rw [nI_1]
      exact hz
theorem op_knee (hR : RR s) (x y : Int32) : Op l ad D ia s mX8_knee mX9_knee [.int x, .int y] := by
  obtain ⟨nb, nr, p, tl, tb, flt, sn, sa, K, H, tn, hG, hC, hM⟩ := hR
  have hbad : RR s := ⟨nb, nr, p, tl, tb, flt, sn, sa, K, H, tn, hG, hC, hM⟩
  have hp := hG.1.1
  have h8 := hp.1.1
  have h4 := hp.1.2
  obtain ⟨f, w, hH⟩ := hC.1
  have hB := ev_hasR (l := l) (ad := ad) (D := D) (ia := ia) (d := 8) (s := s) (o := 1) rfl hH.n4 h4 x
  have hMB := fun s2 (h : (s2 20).1 4 = nI nr) => mv_isReader (l := l) (ad := ad) (D := D) (ia := ia) (d := 7) (s := s2) h h4 x
  have o1 := ev_out0 (l := l) (ad := ad) (D := D) (ia := ia) (d := 8) (s := s) (n := 1) y (y := 1) rfl (by decide)
  have i1 := fun s2 => mv_isPart (l := l) (ad := ad) (D := D) (ia := ia) (d := 7) (s := s2) y
  by_cases cx : inN x nr = true
  · rw [cx] at hB hMB
    by_cases cy : inN y 2 = true
    · rw [cy] at o1 i1
      obtain ⟨r, hr, rfl⟩ := inN_nI cx
      obtain ⟨u2, hz⟩ := ev_kneeL (l := l) (ad := ad) (D := D) (ia := ia) (d := 4) (s := s) hr y hC.1 hp nb 0 (s 2) none (by omega) (fun q h => by cases h)
      rw [up_id] at hz
      have h20 : va_up s 2 u2 20 = s 20 := va_up_ne _ _ (by decide)
      obtain ⟨u3, hk3, hz3⟩ := mv_kneeL (l := l) (ad := ad) (D := D) (ia := ia) (d := 3) (s := va_up s 2 u2) hM hr y hp nb 0 (va_up s 2 u2 20) none (by omega) (fun q h => by cases h) (KM.eq h20)
      rw [up_id] at hz3
      exact ⟨.int (knX y (knL p r nb 0 none)), _, _, eX8_knee (fun C hZ => ⟨_, _, hB, fun h => absurd h (by decide), fun _ => ⟨_, _, o1, fun _ => hz C hZ, fun h => absurd rfl h⟩⟩), eX9_knee (fun C hZ => ⟨_, _, hMB _ (by rw [h20]; exact hM.1.2), fun h => absurd h (by decide), fun _ => ⟨_, _, i1 _, fun _ => hz3 C hZ, fun h => absurd h (by decide)⟩⟩), RR_sc hG hC hM (KC.up (o := 2) (v := u2) (by decide)) hk3⟩
    · rw [bool_f cy] at o1 i1
      exact ⟨.int (-1), _, _, eX8_knee (fun C hZ => ⟨_, _, hB, fun h => absurd h (by decide), fun _ => ⟨_, _, o1, fun h => absurd h (by decide), fun _ => ⟨rfl, rfl⟩⟩⟩), eX9_knee (fun C hZ => ⟨_, _, hMB _ hM.1.2, fun h => absurd h (by decide), fun _ => ⟨_, _, i1 _, fun h => absurd rfl h, fun _ => ⟨rfl, rfl⟩⟩⟩), hbad⟩
  · rw [bool_f cx] at hB hMB
    exact ⟨.int (-1), _, _, eX8_knee (fun C hZ => ⟨_, _, hB, fun _ => ⟨rfl, rfl⟩, fun h => absurd rfl h⟩), eX9_knee (fun C hZ => ⟨_, _, hMB _ hM.1.2, fun _ => ⟨rfl, rfl⟩, fun h => absurd rfl h⟩), hbad⟩
end OO
