/-! CALLS that read or change little -/
theorem sat0 {a : Nat → Int32} {nb nr : Nat} {p : PS} {sn : Nat} {sa : Nat → Nat → Int32} : SAT a 0 nb nr p sn sa ↔ NR a nb nr p ∧ a 43 = nI sn ∧ ∀ i j, i < sn → j < 3 → a (44 + 3 * i + j) = sa i j := by
  unfold SAT
  simp only [Nat.zero_add]
theorem MR_a {v : OV} {nb nr : Nat} {p p2 : PS} {tl : Nat} {tb : Nat → Int32} {flt : Int32} {sn sn2 : Nat} {sa sa2 : Nat → Nat → Int32} {K : KT} {H : HT} {tn : Int32} (h : MR v nb nr p tl tb flt sn sa K H tn) {a2 : Nat → Int32} (ha : ∀ j, 62 ≤ j → a2 j = v.2.2 0 j) (hS : SAT a2 0 nb nr p2 sn2 sa2) : MR (setA v 0 a2) nb nr p2 tl tb flt sn2 sa2 K H tn := by
  obtain ⟨h1, h2, h3, h4, h5, h6⟩ := h
  refine ⟨h1, h2, h3, hS, ?_, h6⟩
  intro k hk
  refine ⟨(h5 k hk).1, fun hn => ?_⟩
  obtain ⟨⟨n1, n2, n3⟩, g2, g3⟩ := (h5 k hk).2 hn
  have e : ∀ j, (setA v 0 a2).2.2 0 (62 * (k + 1) + j) = v.2.2 0 (62 * (k + 1) + j) := fun j => ha _ (by omega)
  exact ⟨⟨fun c hc b hb => (e _).trans (n1 c hc b hb), fun c hc r hr => (e _).trans (n2 c hc r hr), fun j hj => (e _).trans (n3 j hj)⟩, (e _).trans g2, fun i j hi hj => (e _).trans (g3 i j hi hj)⟩
theorem CR_h {s : ZS} {v : OV} {nb nr : Nat} {p p2 : PS} {tl : Nat} {tb : Nat → Int32} {flt : Int32} {sn : Nat} {sa : Nat → Nat → Int32} {K : KT} {H : HT} {tn : Int32} (h : CR s nb nr p tl tb flt sn sa K H tn) (hv : HQ v nb nr p2) : CR (va_up s 1 v) nb nr p2 tl tb flt sn sa K H tn := by
  have e : ∀ o, o ≠ 1 → va_up s 1 v o = s o := fun o ho => va_up_ne _ _ ho
  obtain ⟨h1, h2, h3, h4, h5, h6⟩ := h
  refine ⟨by rw [va_up_self]; exact hv, by rw [e 16 (by omega)]; exact h2, by rw [e 0 (by omega)]; exact h3, by rw [e 7 (by omega)]; exact h4, ?_, ?_⟩
  · intro i hi
    rw [e (10 + i) (by omega), e (5 + i) (by omega), e (8 + i) (by omega)]
    exact h5 i hi
  · intro i hi
    rw [e (12 + i) (by omega)]
    exact h6 i hi
theorem CR_t {s : ZS} {v : OV} {nb nr : Nat} {p : PS} {tl tl2 : Nat} {tb tb2 : Nat → Int32} {flt : Int32} {sn : Nat} {sa : Nat → Nat → Int32} {K : KT} {H : HT} {tn : Int32} (h : CR s nb nr p tl tb flt sn sa K H tn) (hv : v.1 1 = nI tl2 ∧ ∀ i, i < tl2 → v.2.2 0 i = tb2 i) : CR (va_up s 16 v) nb nr p tl2 tb2 flt sn sa K H tn := by
  have e : ∀ o, o ≠ 16 → va_up s 16 v o = s o := fun o ho => va_up_ne _ _ ho
  obtain ⟨h1, h2, h3, h4, h5, h6⟩ := h
  refine ⟨by rw [e 1 (by omega)]; exact h1, by rw [va_up_self]; exact hv, by rw [e 0 (by omega)]; exact h3, by rw [e 7 (by omega)]; exact h4, ?_, ?_⟩
  · intro i hi
    rw [e (10 + i) (by omega), e (5 + i) (by omega), e (8 + i) (by omega)]
    exact h5 i hi
  · intro i hi
    rw [e (12 + i) (by omega)]
    exact h6 i hi
theorem CR_s {s : ZS} {v : OV} {nb nr : Nat} {p : PS} {tl : Nat} {tb : Nat → Int32} {flt : Int32} {sn sn2 : Nat} {sa sa2 : Nat → Nat → Int32} {K : KT} {H : HT} {tn : Int32} (h : CR s nb nr p tl tb flt sn sa K H tn) (hv : SR v sn2 sa2) : CR (va_up s 7 v) nb nr p tl tb flt sn2 sa2 K H tn := by
  have e : ∀ o, o ≠ 7 → va_up s 7 v o = s o := fun o ho => va_up_ne _ _ ho
  obtain ⟨h1, h2, h3, h4, h5, h6⟩ := h
  refine ⟨by rw [e 1 (by omega)]; exact h1, by rw [e 16 (by omega)]; exact h2, by rw [e 0 (by omega)]; exact h3, by rw [va_up_self]; exact hv, ?_, ?_⟩
  · intro i hi
    rw [e (10 + i) (by omega), e (5 + i) (by omega), e (8 + i) (by omega)]
    exact h5 i hi
  · intro i hi
    rw [e (12 + i) (by omega)]
    exact h6 i hi
theorem SAT_u {a : Nat → Int32} {nb nr : Nat} {p p2 : PS} {sn : Nat} {sa : Nat → Nat → Int32} (h : SAT a 0 nb nr p sn sa) {i : Nat} {x : Int32} (hi : i < 43) (hn : NR (upd a i x) nb nr p2) : SAT (upd a i x) 0 nb nr p2 sn sa := by
  rw [sat0] at h ⊢
  refine ⟨hn, ?_, ?_⟩
  · rw [upd_ne _ _ (by omega)]
    exact h.2.1
  · intro i2 j hi2 hj
    rw [upd_ne _ _ (by omega)]
    exact h.2.2 i2 j hi2 hj
theorem upd_hi {a : Nat → Int32} {i : Nat} {x : Int32} (hi : i < 62) : ∀ j, 62 ≤ j → upd a i x j = a j := fun j hj => upd_ne _ _ (by omega)
def doneB : Nat → Nat → PS → Int32 → Int32
  | 0, _, _, a => a
  | k + 1, r, p, a => doneB k (r + 1) p (if p.1 4 r = -4 then a ||| (1 <<< (nI r &&& 31)) else a)
def hadB : Nat → Nat → PS → Nat → Int32 → Int32
  | 0, _, _, _, a => a
  | k + 1, r, p, b, a => hadB k (r + 1) p b (if hadq p r b = 0 then a else a ||| (1 <<< (nI r &&& 31)))
theorem zshl (y : Int32) : (0 : Int32) <<< y = 0 := by
  apply Int32.toBitVec_inj.mp
  simp
theorem or0 (y : Int32) : y ||| 0 = y := by
  apply Int32.toBitVec_inj.mp
  simp
theorem PB.st {nb nr : Nat} {p : PS} {x : Int32} (h : PB nb nr p) (hx : rng x 0 7) : PB nb nr (pz p 0 x) := ⟨h.1, h.2.1, h.2.2.1, hx, h.2.2.2.2.1, h.2.2.2.2.2⟩
theorem rng_in {x : Int32} {n : Nat} (h : inN x (n + 1) = true) : rng x 0 n := by
  obtain ⟨k, hk, rfl⟩ := inN_nI h
  exact ⟨k, by omega, by omega, rfl⟩
section OA
variable {l : Launch} {ad : ZA} {D : va_G} {ia : Nat → ClassId} {d nb nr r b o : Nat} {s : ZS} {p : PS} {f m w : Int32}
theorem ev_whoAreDone (ho : zcls o = 0) (hH : HR (s o) nb nr p f w) (hp : PI nb nr p) : Ev l ad D ia (d + 2) mX0_whoAreDone [.ref (ad o 0)] s (some (.int (doneB nr 0 p 0))) s := by
  have hr4 : nr ≤ 4 := hp.1.2
  refine eX0_whoAreDone ho (fun C hC => ?_)
  have h : ∀ (k r : Nat) (a : Int32), r + k = nr → Z l ad D ia C (some (.int (doneB k r p a))) s 4 [(0, .ref (ad o 0)), (1, .int a), (2, .int (nI r))] [] s := by
    intro k
    induction k with
    | zero =>
      intro r a hk
      refine bX0_whoAreDone_4 ho hC ⟨fun _ => ⟨rfl, rfl⟩, fun h => ?_⟩
      rw [hH.n4] at h
      exact absurd (nI_le (a := nr) (b := r) (by omega) (by omega)) h
    | succ k ih =>
      intro r a hk
      refine bX0_whoAreDone_4 ho hC ⟨fun h => ?_, fun _ => ⟨_, _, ev_isDone ho hH hp (by omega), fun h => ?_, fun h => ?_⟩⟩
      · rw [hH.n4] at h
        exact absurd h (nI_ge (by omega) (by omega))
      · unfold doneB
        by_cases c : p.1 4 r = -4
        · rw [if_pos c] at h
          exact absurd h (by decide)
        · rw [if_neg c, nI_1]
          exact ih (r + 1) _ (by omega)
      · unfold doneB
        by_cases c : p.1 4 r = -4
        · rw [if_pos c, nI_1]
          exact ih (r + 1) _ (by omega)
        · rw [if_neg c] at h
          exact absurd rfl h
  exact h nr 0 0 (by omega)
theorem mv_flag (x : Int32) : Ev l ad D ia d mX9_flag [.int x] s (some (.int (if x = 0 then 0 else 1))) s := by
  refine eX9_flag ⟨fun h => ⟨?_, rfl⟩, fun h => ⟨?_, rfl⟩⟩
  · rw [if_pos h]
  · rw [if_neg h]
theorem mv_doneNow (hM : MM (s 20) nb nr p f m w) (hp : PI nb nr p) : Ev l ad D ia (d + 1) mX9_doneNow [.ref (ad 20 0)] s (some (.int (doneB nr 0 p 0))) s := by
  have hr4 : nr ≤ 4 := hp.1.2
  refine eX9_doneNow (fun C hC => ?_)
  have h : ∀ (k r : Nat) (a : Int32), r + k = nr → Z l ad D ia C (some (.int (doneB k r p a))) s 4 [(0, .ref (ad 20 0)), (1, .int a), (2, .int (nI r))] [] s := by
    intro k
    induction k with
    | zero =>
      intro r a hk
      refine bX9_doneNow_4 hC ⟨fun _ => ⟨rfl, rfl⟩, fun h => ?_⟩
      rw [hM.1.2] at h
      exact absurd (nI_le (a := nr) (b := r) (by omega) (by omega)) h
    | succ k ih =>
      intro r a hk
      refine bX9_doneNow_4 hC ⟨fun h => ?_, fun _ => ⟨_, _, mv_ofR (c := 1) hM hp (by decide) (by omega), fun h => ⟨_, _, mv_flag _, ?_⟩, fun h => ⟨_, _, mv_flag _, ?_⟩⟩⟩
      · rw [hM.1.2] at h
        exact absurd h (nI_ge (by omega) (by omega))
      · unfold doneB
        rw [if_neg h, if_pos rfl, zshl, or0, nI_1]
        exact ih (r + 1) _ (by omega)
      · unfold doneB
        rw [if_pos h, if_neg (by decide), nI_1]
        exact ih (r + 1) _ (by omega)
  exact h nr 0 0 (by omega)
theorem op_fault (hR : RR s) : Op l ad D ia s mX8_fault mX9_fault [] := by
  obtain ⟨nb, nr, p, tl, tb, flt, sn, sa, K, H, tn, hG, hC, hM⟩ := hR
  exact ⟨_, _, _, eX8_fault ⟨rfl, rfl⟩, eX9_fault ⟨by rw [hC.2.2.1.1, hM.2.2.1.1], rfl⟩, nb, nr, p, tl, tb, flt, sn, sa, K, H, tn, hG, hC, hM⟩
theorem op_torn (hR : RR s) : Op l ad D ia s mX8_torn mX9_torn [] := by
  obtain ⟨nb, nr, p, tl, tb, flt, sn, sa, K, H, tn, hG, hC, hM⟩ := hR
  exact ⟨_, _, _, eX8_torn ⟨rfl, rfl⟩, eX9_torn ⟨by rw [hC.2.2.1.2, hM.2.2.1.2], rfl⟩, nb, nr, p, tl, tb, flt, sn, sa, K, H, tn, hG, hC, hM⟩
def ruV (nb nr : Nat) (p : PS) (x : Int32) : Int32 := if x = 0 then nI nb else if x = 1 then nI nr else if x = 2 then p.2 0 else if x = 3 then p.2 1 else if x = 4 then p.2 2 else if x = 5 then doneB nr 0 p 0 else -1
theorem op_rule (hR : RR s) (x : Int32) : Op l ad D ia s mX8_rule mX9_rule [.int x] := by
  obtain ⟨nb, nr, p, tl, tb, flt, sn, sa, K, H, tn, hG, hC, hM⟩ := hR
  have hp := hG.1.1
  obtain ⟨f, w, hH⟩ := hC.1
  obtain ⟨v, hev, hMM, hkn⟩ := mv_starts (l := l) (ad := ad) (D := D) (ia := ia) (d := 8) hM.1 hM.2.2.2.1 hp.1.1 hp.1.2
  have hMM2 : MM (va_up s 20 v 20) nb nr p (v.1 18) (v.1 19) (v.1 20) := by rw [va_up_self]; exact hMM
  have hst : ∀ j, (va_up s 20 v 20).2.2 0 j = (s 20).2.2 0 j := fun j => by rw [va_up_self, hkn.2.1 0 (by decide)]
  have n0 := (sat0.mp hM.2.2.2.1).1.2.2
  refine ⟨.int (ruV nb nr p x), _, _, eX8_rule ⟨fun h => ⟨?_, rfl⟩, fun h => ⟨?_, rfl⟩, fun h => ⟨?_, rfl⟩, fun h => ⟨?_, rfl⟩, fun h => ⟨?_, rfl⟩, fun h => ⟨_, _, ev_whoAreDone rfl hH hp, ?_, rfl⟩, fun h => ⟨?_, rfl⟩⟩, eX9_rule ⟨_, hev, fun h => ⟨?_, rfl⟩, fun h => ⟨?_, rfl⟩, fun h => ⟨vp_in_nI (n := 40) (by decide) (by decide), ?_, rfl⟩, fun h => ⟨vp_in_nI (n := 41) (by decide) (by decide), ?_, rfl⟩, fun h => ⟨vp_in_nI (n := 42) (by decide) (by decide), ?_, rfl⟩, fun h => ⟨_, _, mv_doneNow hMM2 hp, ?_, rfl⟩, fun h => ⟨?_, rfl⟩⟩, nb, nr, p, tl, tb, flt, sn, sa, K, H, tn, hG, CR_20 hC, ?_⟩
  · subst h; rw [hH.n0]; rfl
  · subst h; rw [hH.n4]; rfl
  · subst h; rw [hH.n9]; rfl
  · subst h; rw [hH.n10]; rfl
  · subst h; rw [hH.n11]; rfl
  · subst h; rfl
  · unfold ruV; rw [if_neg h.1, if_neg h.2.1, if_neg h.2.2.1, if_neg h.2.2.2.1, if_neg h.2.2.2.2.1, if_neg h.2.2.2.2.2]
  · subst h; rw [hMM2.1.1]; rfl
  · subst h; rw [hMM2.1.2]; rfl
  · subst h; rw [hst, c40, n0 0 (by decide)]; rfl
  · subst h; rw [hst, c41, n0 1 (by decide)]; rfl
  · subst h; rw [hst, c42, n0 2 (by decide)]; rfl
  · subst h; rfl
  · unfold ruV; rw [if_neg h.1, if_neg h.2.1, if_neg h.2.2.1, if_neg h.2.2.2.1, if_neg h.2.2.2.2.1, if_neg h.2.2.2.2.2]
  · rw [va_up_self]
    exact MR_km hkn.M hM
theorem mv_becomes {i : Nat} (hi : i < 186) (x : Int32) : Ev l ad D ia d mX9_becomes [.ref (ad 20 0), .int (nI i), .int x] s (some (.int ((s 20).2.2 0 i))) (va_up s 20 (setA (s 20) 0 (upd ((s 20).2.2 0) i x))) := by
  refine eX9_becomes ⟨vp_in_nI hi (by omega), vp_in_nI hi (by omega), fun s1 e1 => ?_⟩
  rw [nI_clamp (by omega)] at e1 ⊢
  exact ⟨rfl, e1.symm⟩
theorem op_roll (hR : RR s) (x : Int32) : Op l ad D ia s mX8_roll mX9_roll [.int x] := by
  obtain ⟨nb, nr, p, tl, tb, flt, sn, sa, K, H, tn, hG, hC, hM⟩ := hR
  have hp := hG.1.1
  obtain ⟨f, w, hH⟩ := hC.1
  have n0 := (sat0.mp hM.2.2.2.1).1.2.2 0 (by decide)
  by_cases c : inN x 8 = true
  · refine ⟨.int (p.2 0), va_up s 1 (setI (s 1) 9 x), _, eX8_roll ⟨_, _, ev_out0 (n := 7) x rfl (by decide), fun _ s1 e1 => ⟨?_, e1.symm⟩, fun h => ?_⟩, eX9_roll ⟨_, _, mv_isBay x, fun h => ?_, fun _ => ⟨_, _, mv_becomes (i := 40) (by decide) x, ?_, rfl⟩⟩, nb, nr, pz p 0 x, tl, tb, flt, sn, sa, K, H, tn, ⟨hG.1.st (rng_in c), hG.2⟩, CR_20 (CR_h hC ⟨f, w, hH.s9 x⟩), ?_⟩
    · rw [hH.n9]
    · rw [c] at h
      exact absurd rfl h
    · rw [c] at h
      exact absurd h (by decide)
    · rw [va_up_ne _ _ (by decide), n0]
    · rw [va_up_self, va_up_ne _ _ (by decide)]
      exact MR_a hM (upd_hi (by decide)) (SAT_u hM.2.2.2.1 (by decide) ((sat0.mp hM.2.2.2.1).1.num hp.1.1 hp.1.2 (j := 0) (by decide) x))
  · rw [Bool.not_eq_true] at c
    refine ⟨.int (-1), _, _, eX8_roll ⟨_, _, ev_out0 (n := 7) x rfl (by decide), fun h => ?_, fun _ => ⟨rfl, rfl⟩⟩, eX9_roll ⟨_, _, mv_isBay x, fun _ => ⟨rfl, rfl⟩, fun h => ?_⟩, nb, nr, p, tl, tb, flt, sn, sa, K, H, tn, hG, hC, hM⟩
    · rw [c] at h
      exact absurd h (by decide)
    · rw [c] at h
      exact absurd rfl h
end OA
