/-! THE TEXT, the reference's side: the call -/
section TXQ
variable {l : Launch} {ad : ZA} {D : va_G} {ia : Nat → ClassId} {d : Nat} {s : ZS} {tl : Nat} {tb : Nat → Int32}
theorem nar_b0 : vp_nar .boolean 0 = 0 := by decide
theorem mv_fdL : ∀ (k i : Nat) (v : OV), i + k = 62 → (∀ j, j < i → v.2.2 5 j = 0) → ∃ v2 : OV, ((∀ j, j < 62 → v2.2.2 5 j = 0) ∧ v2.1 = v.1 ∧ ∀ r, r ≠ 5 → v2.2.2 r = v.2.2 r) ∧ ∀ C : ZC, Zok ad D ia C d cX9_firstDraft 2 RX9 none → Z l ad D ia C none (va_up s 20 (setI (setI (setI (setI v2 6 0) 7 0) 8 0) 9 (-4))) 2 [(0, .ref (ad 20 0)), (1, .int (nI i))] [] (va_up s 20 v) := by
  intro k
  induction k with
  | zero =>
    intro i v hk hv
    refine ⟨v, ⟨fun j hj => hv j (by omega), rfl, fun _ _ => rfl⟩, fun C hC => bX9_firstDraft_2 hC ⟨fun _ s2 e2 s3 e3 s4 e4 s5 e5 => ⟨rfl, ?_⟩, fun h => absurd (nI_le (a := 62) (b := i) (by omega) (by omega)) h⟩⟩
    rw [stI_up] at e2
    subst e2
    rw [stI_up] at e3
    subst e3
    rw [stI_up] at e4
    subst e4
    rw [stI_up] at e5
    exact e5.symm
  | succ k ih =>
    intro i v hk hv
    obtain ⟨v2, ⟨h1, h2, h3⟩, hz⟩ := ih (i + 1) (arw v 5 i 0) (by omega) (by
      intro j hj
      rw [arw_row]
      by_cases e : j = i
      · subst e
        rw [upd_self]
      · rw [upd_ne _ _ e]
        exact hv j (by omega))
    refine ⟨v2, ⟨h1, h2, fun r hr => (h3 r hr).trans (va_up_ne v.2.2 (upd (v.2.2 5) i 0) hr)⟩, fun C hC => bX9_firstDraft_2 hC ⟨fun h => absurd h (nI_ge (a := i) (b := 62) (by omega) (by omega)), fun _ => ⟨vp_in_nI (by omega) (by omega), fun s7 e7 => ?_⟩⟩⟩
    rw [nI_clamp (by omega), stA_w] at e7
    subst e7
    rw [nI_1]
    exact hz C hC
theorem mv_firstDraft (v : OV) : ∃ v2 : OV, Ev l ad D ia d mX9_firstDraft [.ref (ad 20 0)] (va_up s 20 v) none (va_up s 20 v2) ∧ (∀ j, j < 62 → v2.2.2 5 j = 0) ∧ (v2.1 6 = 0 ∧ v2.1 7 = 0 ∧ v2.1 8 = 0 ∧ v2.1 9 = -4) ∧ (∀ k, k < 6 ∨ 9 < k → v2.1 k = v.1 k) ∧ ∀ r, r ≠ 5 → v2.2.2 r = v.2.2 r := by
  obtain ⟨v2, ⟨h1, h2, h3⟩, hz⟩ := mv_fdL (l := l) (ad := ad) (D := D) (ia := ia) (d := d) (s := s) 62 0 v rfl (fun j hj => absurd hj (by omega))
  refine ⟨_, eX9_firstDraft hz, h1, ⟨?_, ?_, ?_, ?_⟩, fun k hk => ?_, h3⟩
  · rw [sI_n _ _ (by decide), sI_n _ _ (by decide), sI_n _ _ (by decide), sI_s]
  · rw [sI_n _ _ (by decide), sI_n _ _ (by decide), sI_s]
  · rw [sI_n _ _ (by decide), sI_s]
  · rw [sI_s]
  · rw [sI_n _ _ (by omega), sI_n _ _ (by omega), sI_n _ _ (by omega), sI_n _ _ (by omega), h2]
theorem mv_kdL : ∀ (k i : Nat) (v : OV), i + k = 62 → (∀ j, j < i → v.2.2 0 j = v.2.2 5 j) → ∃ v2 : OV, ((∀ j, j < 62 → v2.2.2 0 j = v.2.2 5 j) ∧ v2.1 = v.1 ∧ ∀ r, r ≠ 0 → v2.2.2 r = v.2.2 r) ∧ ∀ C : ZC, Zok ad D ia C d cX9_keepDraft 2 RX9 none → Z l ad D ia C none (va_up s 20 (arw (arw (setI (setI v2 3 (v.1 6)) 4 (v.1 7)) 2 0 0) 2 1 0)) 2 [(0, .ref (ad 20 0)), (1, .int (nI i))] [] (va_up s 20 v) := by
  intro k
  induction k with
  | zero =>
    intro i v hk hv
    refine ⟨v, ⟨fun j hj => hv j (by omega), rfl, fun _ _ => rfl⟩, fun C hC => bX9_keepDraft_2 hC ⟨fun _ s2 e2 s3 e3 => ⟨vp_in_nI (n := 0) (by decide) (by decide), fun s5 e5 => ⟨vp_in_nI (n := 1) (by decide) (by decide), fun s7 e7 => ⟨rfl, ?_⟩⟩⟩, fun h => absurd (nI_le (a := 62) (b := i) (by omega) (by omega)) h⟩⟩
    rw [va_up_self, stI_up] at e2
    subst e2
    rw [va_up_self, sI_n _ _ (by decide), stI_up] at e3
    subst e3
    rw [nar_b0, c0, stA_w] at e5
    subst e5
    rw [nar_b0, show (1 : Int32).toNatClampNeg = 1 by decide, stA_w] at e7
    exact e7.symm
  | succ k ih =>
    intro i v hk hv
    have r5 : (arw v 0 i (v.2.2 5 i)).2.2 5 = v.2.2 5 := va_up_ne v.2.2 (upd (v.2.2 0) i (v.2.2 5 i)) (show 5 ≠ 0 by decide)
    obtain ⟨v2, ⟨h1, h2, h3⟩, hz⟩ := ih (i + 1) (arw v 0 i (v.2.2 5 i)) (by omega) (by
      intro j hj
      rw [arw_row, r5]
      by_cases e : j = i
      · subst e
        rw [upd_self]
      · rw [upd_ne _ _ e]
        exact hv j (by omega))
    refine ⟨v2, ⟨fun j hj => by rw [h1 j hj, r5], h2, fun r hr => (h3 r hr).trans (va_up_ne v.2.2 (upd (v.2.2 0) i (v.2.2 5 i)) hr)⟩, fun C hC => bX9_keepDraft_2 hC ⟨fun h => absurd h (nI_ge (a := i) (b := 62) (by omega) (by omega)), fun _ => ⟨vp_in_nI (by omega) (by omega), vp_in_nI (by omega) (by omega), fun s7 e7 => ?_⟩⟩⟩
    rw [va_up_self, nI_clamp (by omega), stA_w] at e7
    subst e7
    rw [nI_1]
    exact hz C hC
theorem mv_keepDraft (v : OV) : ∃ v2 : OV, Ev l ad D ia d mX9_keepDraft [.ref (ad 20 0)] (va_up s 20 v) none (va_up s 20 v2) ∧ (∀ j, j < 62 → v2.2.2 0 j = v.2.2 5 j) ∧ (v2.1 3 = v.1 6 ∧ v2.1 4 = v.1 7) ∧ (v2.2.2 2 0 = 0 ∧ v2.2.2 2 1 = 0) ∧ (∀ k, k ≠ 3 → k ≠ 4 → v2.1 k = v.1 k) ∧ ∀ r, r ≠ 0 → r ≠ 2 → v2.2.2 r = v.2.2 r := by
  have hex : ∃ v2 : OV, ((∀ j, j < 62 → v2.2.2 0 j = v.2.2 5 j) ∧ v2.1 = v.1 ∧ ∀ r, r ≠ 0 → v2.2.2 r = v.2.2 r) ∧ Ev l ad D ia d mX9_keepDraft [.ref (ad 20 0)] (va_up s 20 v) none (va_up s 20 (arw (arw (setI (setI v2 3 (v.1 6)) 4 (v.1 7)) 2 0 0) 2 1 0)) := by
    obtain ⟨v2, h, hz⟩ := mv_kdL (l := l) (ad := ad) (D := D) (ia := ia) (d := d) (s := s) 62 0 v rfl (fun j hj => absurd hj (by omega))
    exact ⟨v2, h, eX9_keepDraft hz⟩
  obtain ⟨v2, ⟨h1, h2, h3⟩, hE⟩ := hex
  refine ⟨_, hE, fun j hj => ?_, ⟨?_, ?_⟩, ⟨?_, ?_⟩, fun k a b => ?_, fun r a b => ?_⟩
  · rw [arw_n _ _ _ _ (by decide), arw_n _ _ _ _ (by decide)]
    exact h1 j hj
  · show (setI (setI v2 3 (v.1 6)) 4 (v.1 7)).1 3 = _
    rw [sI_n _ _ (by decide), sI_s]
  · show (setI (setI v2 3 (v.1 6)) 4 (v.1 7)).1 4 = _
    rw [sI_s]
  · rw [arw_row, upd_ne _ _ (by decide), arw_row, upd_self]
  · rw [arw_s]
  · show (setI (setI v2 3 (v.1 6)) 4 (v.1 7)).1 k = _
    rw [sI_n _ _ b, sI_n _ _ a, h2]
  · funext j
    rw [arw_n _ _ _ _ b, arw_n _ _ _ _ b]
    show v2.2.2 r j = _
    rw [h3 r a]
/-- the lines of a text, read by the reference -/
theorem mv_lines (h160 : tl ≤ 160) (hby : ∀ j, j < tl → rng (tb j) 0 127) : ∀ (k : Nat) (r : TS) (L : LQ) (n : Nat) (v : OV), n + k = 160 → okT tl r → aft n r → MT v tl tb r → (∀ t, r = .inr t → MD v L) → okL L → ∃ v2, (MT v2 tl tb (txF tl tb k r L n).1 ∧ (∀ t, (txF tl tb k r L n).1 = .inr t → MD v2 (txF tl tb k r L n).2.1) ∧ okL (txF tl tb k r L n).2.1 ∧ KQ v v2) ∧ ∀ (C : ZC) (X : Option Value) (Y : ZS), Zok ad D ia C (d + 5) cX9_text 2 RX9 (some .int) → Z l ad D ia C X Y 44 [(0, .ref (ad 20 0)), (1, .int (nI (txF tl tb k r L n).2.2))] [] (va_up s 20 v2) → Z l ad D ia C X Y 20 [(0, .ref (ad 20 0)), (1, .int (nI n))] [] (va_up s 20 v) := by
  have stL : ∀ {e : Nat × Nat} {v : OV} {n : Nat}, okT tl (.inl e) → MT v tl tb (.inl e) → ∀ (C : ZC) (X : Option Value) (Y : ZS), Zok ad D ia C (d + 5) cX9_text 2 RX9 (some .int) → Z l ad D ia C X Y 44 [(0, .ref (ad 20 0)), (1, .int (nI n))] [] (va_up s 20 v) → Z l ad D ia C X Y 20 [(0, .ref (ad 20 0)), (1, .int (nI n))] [] (va_up s 20 v) := fun ho h C X Y hC hz => bX9_text_20 hC ⟨fun _ => hz, fun q => absurd q (mt_ne h ho)⟩
  have stE : ∀ {t : Nat × Nat × Nat} {v : OV} {n : Nat}, t.1 = 0 → MT v tl tb (.inr t) → ∀ (C : ZC) (X : Option Value) (Y : ZS), Zok ad D ia C (d + 5) cX9_text 2 RX9 (some .int) → Z l ad D ia C X Y 44 [(0, .ref (ad 20 0)), (1, .int (nI n))] [] (va_up s 20 v) → Z l ad D ia C X Y 20 [(0, .ref (ad 20 0)), (1, .int (nI n))] [] (va_up s 20 v) := fun c h C X Y hC hz => bX9_text_20 hC ⟨fun q => absurd (by rw [va_up_self]; exact h.2.1) q, fun _ => ⟨fun _ => hz, fun q => absurd (by rw [va_up_self, h.2.2.1, c]; rfl) q⟩⟩
  intro k
  induction k with
  | zero =>
    intro r L n v hn ho ha h hD hL
    cases r with
    | inl e => exact ⟨v, ⟨h, hD, hL, KQ.rf v⟩, stL ho h⟩
    | inr t =>
      have c : t.1 = 0 := by
        apply Classical.byContradiction
        intro h0
        have h1 := ho.2.2.2.1 h0
        have h2 := ho.2.2.1
        have ha : n ≤ t.2.1 := ha
        omega
      exact ⟨v, ⟨h, hD, hL, KQ.rf v⟩, stE c h⟩
  | succ k ih =>
    intro r L n v hn ho ha h hD hL
    cases r with
    | inl e => exact ⟨v, ⟨h, hD, hL, KQ.rf v⟩, stL ho h⟩
    | inr t =>
      have e : txF tl tb (k + 1) (.inr t) L n = if t.1 = 0 then (.inr t, L, n) else txF tl tb k (nxt tl tb (lnA tl tb t L).1) (lnA tl tb t L).2 (n + 1) := rfl
      rw [e]
      have h3 := ho.1
      by_cases c : t.1 = 0
      · rw [if_pos c]
        exact ⟨v, ⟨h, hD, hL, KQ.rf v⟩, stE c h⟩
      · rw [if_neg c]
        have hoA := lnA_ok (tb := tb) (L := L) ho
        have ha2 := lnA_aft (tb := tb) (L := L) ho c
        have hle : n ≤ t.2.1 := ha
        obtain ⟨v1, e1, m1, k1, d1⟩ := mv_readLine (l := l) (ad := ad) (D := D) (ia := ia) (d := d) (s := s) h160 hby ho h (hD t rfl) hL
        obtain ⟨v2, ⟨m2, d2, l2, k2⟩, hz⟩ := ih _ _ (n + 1) v1 (by omega) (nxt_ok (tb := tb) hoA) (nxt_aft0 hoA (by
          cases hq : (lnA tl tb t L).1 with
          | inl e3 => trivial
          | inr u =>
            rw [hq] at ha2
            have ha2 : t.2.1 + 1 ≤ u.2.1 := ha2
            show n + 1 ≤ u.2.1
            omega)) m1 (fun w q => d1 ⟨w, q⟩) (okL_A hL)
        refine ⟨v2, ⟨m2, d2, l2, k1.tr k2⟩, fun C X Y hC hz2 => bX9_text_20 hC ⟨fun q => absurd (by rw [va_up_self]; exact h.2.1) q, fun _ => ⟨fun q => absurd ((nI_eq (a := t.1) (b := 0) (by omega) (by omega)).mp (by rw [va_up_self, h.2.2.1] at q; exact q)) c, fun _ => ⟨_, e1, ?_⟩⟩⟩⟩
        rw [nI_1]
        exact hz C X Y hC hz2
def txM (v v1 : OV) (F : TS × LQ × Nat) (x : Int32) (e : Sum (Nat × Nat) Unit) : Prop := (∀ k, k < 3 ∨ k = 5 ∨ k = 10 ∨ 17 < k → v1.1 k = v.1 k) ∧ (∀ r, r ≠ 0 → r ≠ 2 → r ≠ 5 → v1.2.2 r = v.2.2 r) ∧ (match e with
  | .inl q => x = -10 - nI q.2 ∧ v1.1 16 = nI q.1 ∧ (v1.1 3 = v.1 3 ∧ v1.1 4 = v.1 4) ∧ v1.2.2 0 = v.2.2 0 ∧ v1.2.2 2 = v.2.2 2
  | .inr _ => x = nI F.2.2 ∧ v1.1 16 = 0 ∧ (v1.1 3 = nI F.2.1.1 ∧ v1.1 4 = nI F.2.1.2.1) ∧ (NR (v1.2.2 0) F.2.1.1 F.2.1.2.1 F.2.1.2.2.1 ∧ v1.2.2 0 43 = 0) ∧ v1.2.2 2 0 = 0 ∧ v1.2.2 2 1 = 0)
theorem mv_text {v : OV} (h160 : tl ≤ 160) (hby : ∀ j, j < tl → rng (tb j) 0 127) (h1 : v.1 11 = nI tl) (hb : ∀ j, j < tl → v.2.2 10 j = tb j) : ∃ x e v1, Ev l ad D ia (d + 5) mX9_text [.ref (ad 20 0)] (va_up s 20 v) (some (.int x)) (va_up s 20 v1) ∧ txO tl (txF tl tb 160 (tkE tl tb 0) L00 0) e ∧ txM v v1 (txF tl tb 160 (tkE tl tb 0) L00 0) x e ∧ v1.1 11 = nI 0 := by
  obtain ⟨w, hE1, w5, ⟨w6, w7, w8, w9⟩, wk, wr⟩ := mv_firstDraft (l := l) (ad := ad) (D := D) (ia := ia) (d := d + 4) (s := s) (setI (setI v 16 0) 12 0)
  have w11 : w.1 11 = nI tl := by rw [wk 11 (by decide), sI_n _ _ (by decide), sI_n _ _ (by decide)]; exact h1
  have w16 : w.1 16 = 0 := by rw [wk 16 (by decide), sI_n _ _ (by decide), sI_s]
  have w12 : w.1 12 = nI 0 := by rw [wk 12 (by decide), sI_s]; rfl
  have wb : ∀ j, j < tl → w.2.2 10 j = tb j := fun j hj => by rw [wr 10 (by decide)]; exact hb j hj
  obtain ⟨u, hE2, um, uf⟩ := mv_takes0 (l := l) (ad := ad) (D := D) (ia := ia) (d := d + 3) (s := s) h160 hby (q0 := 0) (Nat.zero_le tl) w11 wb w16 w12
  have uD : MD u L00 := by
    refine MD.fm ⟨⟨w6, w7, w8⟩, ⟨fun c hc b hb => absurd hb (Nat.not_lt_zero b), fun c hc b hb => absurd hb (Nat.not_lt_zero b), fun j hj => ?_⟩, ⟨w5 43 (by decide), fun r hr => w5 _ (by omega)⟩, fun n hn => ?_⟩ uf
    · rw [w5 _ (by omega)]
      rfl
    · rw [w9]
      refine ⟨fun _ => ⟨fun i hi => absurd hi (Nat.not_lt_zero i), fun i hi => absurd hi (Nat.not_lt_zero i)⟩, fun _ => ?_⟩
      rw [Int32.lt_iff_toInt_lt, nI_toInt (by omega), show (-4 : Int32).toInt = -4 by decide]
      omega
  obtain ⟨y, ⟨ym, yD, yL, yk⟩, hz⟩ := mv_lines (l := l) (ad := ad) (D := D) (ia := ia) (d := d) (s := s) h160 hby 160 (tkE tl tb 0) L00 0 u rfl (tkE_ok (Nat.zero_le tl)) (by
    cases tkE tl tb 0 with
    | inl e => trivial
    | inr t => exact Nat.zero_le _) um (fun t _ => uD) ⟨by decide, by decide⟩
  have hoF := tx_ok (tb := tb) h160
  have hend := (txF_end (tb := tb) h160 160 (tkE tl tb 0) L00 0 rfl (tkE_ok (Nat.zero_le tl)) (by
    cases tkE tl tb 0 with
    | inl e => trivial
    | inr t => exact Nat.zero_le _)).2
  generalize txF tl tb 160 (tkE tl tb 0) L00 0 = F at ym yD yL hz hoF hend ⊢
  obtain ⟨F1, L, n⟩ := F
  have kA : (∀ k, k < 6 ∨ k = 10 ∨ k = 11 ∨ 17 < k → y.1 k = v.1 k) ∧ ∀ r, r ≠ 5 → y.2.2 r = v.2.2 r := by
    refine ⟨fun k hk => ?_, fun r hr => ?_⟩
    · rw [yk.1 k hk, uf.1 k (by omega), wk k (by omega), sI_n _ _ (by omega), sI_n _ _ (by omega)]
    · rw [yk.2 r hr, uf.2, wr r hr]
      rfl
  have st : ∀ {x : Int32} {Y : ZS}, (∀ C : ZC, Zok ad D ia C (d + 5) cX9_text 2 RX9 (some .int) → Z l ad D ia C (some (.int x)) Y 44 [(0, .ref (ad 20 0)), (1, .int (nI n))] [] (va_up s 20 y)) → Ev l ad D ia (d + 5) mX9_text [.ref (ad 20 0)] (va_up s 20 v) (some (.int x)) Y := fun hk => eX9_text (fun C hC s1 e1 s2 e2 => by
    rw [stI_up] at e1
    subst e1
    rw [stI_up] at e2
    subst e2
    exact ⟨_, hE1, _, hE2, hz C _ _ hC (hk C hC)⟩)
  cases F1 with
  | inl e =>
    have e16 : (va_up s 20 y 20).1 16 = nI e.1 := by rw [va_up_self]; exact ym.2.1
    refine ⟨-10 - nI e.2, .inl e, setI y 11 0, st (fun C hC => bX9_text_44 hC ⟨fun _ s2 e2 => ?_, fun q => absurd q (mt_ne ym hoF)⟩), rfl, ⟨fun k hk => ?_, fun r r0 r2 r5 => kA.2 r r5, rfl, ?_, ⟨?_, ?_⟩, kA.2 0 (by decide), kA.2 2 (by decide)⟩, sI_s _ _ _⟩
    · rw [stI_up] at e2
      subst e2
      rw [va_up_self, sI_n _ _ (by decide), sI_n _ _ (by decide), ym.2.1, ym.2.2]
      have := okE hoF
      exact ⟨fun q => absurd q (nI_nle (by omega) (by omega)), fun _ => ⟨rfl, rfl⟩⟩
    · rw [sI_n _ _ (by omega)]
      exact kA.1 k (by omega)
    · rw [sI_n _ _ (by decide)]
      exact ym.2.1
    · rw [sI_n _ _ (by decide)]
      exact kA.1 3 (by decide)
    · rw [sI_n _ _ (by decide)]
      exact kA.1 4 (by decide)
  | inr t =>
    have c0' : t.1 = 0 := hend t rfl
    have hD := yD t rfl
    obtain ⟨⟨d6, d7, d8⟩, dN, ⟨d43, dH⟩, dI⟩ := hD
    have d6 : y.1 6 = nI L.1 := d6
    have d7 : y.1 7 = nI L.2.1 := d7
    have e16 : (va_up s 20 y 20).1 16 = 0 := by rw [va_up_self]; exact ym.2.1
    have hiff := dI L.1 yL.1
    have hmiss : y.1 9 < nI L.1 ↔ ¬ missN L.1 L.2.1 (L.2.2.1.1 2) (L.2.2.1.1 4) := by
      rw [hiff]
      constructor
      · rintro ⟨a, b⟩ (⟨i, hi, q⟩ | ⟨i, hi, q⟩)
        · exact q (a i hi)
        · exact q (b i hi)
      · intro q
        refine ⟨fun i hi => ?_, fun i hi => ?_⟩
        · apply Classical.byContradiction
          intro q2
          exact q (Or.inl ⟨i, hi, q2⟩)
        · apply Classical.byContradiction
          intro q2
          exact q (Or.inr ⟨i, hi, q2⟩)
    by_cases cm : y.1 9 < nI L.1
    · obtain ⟨z, hE3, z0, ⟨z3, z4⟩, ⟨z20, z21⟩, zk, zr⟩ := mv_keepDraft (l := l) (ad := ad) (D := D) (ia := ia) (d := d + 4) (s := s) (setI y 11 0)
      have cn : ¬ y.1 6 ≤ y.1 9 := by
        rw [d6, Int32.le_iff_toInt_le]
        rw [Int32.lt_iff_toInt_lt] at cm
        omega
      refine ⟨nI n, .inr (), z, st (fun C hC => bX9_text_44 hC ⟨fun q => absurd e16 q, fun _ => ⟨fun q => absurd (by rw [va_up_self] at q; exact q) cn, fun _ => ⟨_, mv_need1 (by decide) _, fun s15 e15 => ?_⟩⟩⟩), hmiss.mp cm, ⟨fun k hk => ?_, fun r r0 r2 r5 => ?_, rfl, ?_, ⟨?_, ?_⟩, ⟨⟨?_, ?_, ?_⟩, ?_⟩, z20, z21⟩, ?_⟩
      · rw [stI_up] at e15
        subst e15
        refine ⟨fun _ => ⟨_, hE3, rfl, rfl⟩, fun q => absurd ?_ q⟩
        rw [va_up_self, sI_n _ _ (by decide), ym.2.1]
        decide
      · rw [zk k (by omega) (by omega), sI_n _ _ (by omega)]
        exact kA.1 k (by omega)
      · rw [zr r r0 r2]
        exact kA.2 r r5
      · rw [zk 16 (by decide) (by decide), sI_n _ _ (by decide)]
        exact ym.2.1
      · rw [z3, sI_n _ _ (by decide)]
        exact d6
      · rw [z4, sI_n _ _ (by decide)]
        exact d7
      · intro c hc b hb
        have hb : b < L.1 := hb
        have := yL.1
        rw [z0 _ (by dsimp only at this; omega)]
        exact dN.1 c hc b hb
      · intro c hc r hr
        have hr : r < L.2.1 := hr
        have := yL.2
        rw [z0 _ (by dsimp only at this; omega)]
        exact dN.2.1 c hc r hr
      · intro j hj
        rw [z0 _ (by omega)]
        exact dN.2.2 j hj
      · rw [z0 _ (by decide)]
        exact d43
      · rw [zk 11 (by decide) (by decide), sI_s]
        rfl
    · obtain ⟨z, hE3, zm, zf⟩ := mv_needR (l := l) (ad := ad) (D := D) (ia := ia) (d := d + 4) (s := s) ym 6
      have cn : y.1 6 ≤ y.1 9 := by
        rw [d6, Int32.le_iff_toInt_le]
        rw [Int32.lt_iff_toInt_lt] at cm
        omega
      have eB : t.2.1 = tl := hoF.2.2.2.2.1 c0'
      rw [eB] at zm
      have o6 : okT tl (.inl (6, tl)) := ⟨Nat.le_of_ble_eq_true rfl, Nat.le_of_ble_eq_true rfl, Nat.le_refl tl⟩
      refine ⟨-10 - nI tl, .inl (6, tl), setI z 11 0, st (fun C hC => bX9_text_44 hC ⟨fun q => absurd e16 q, fun _ => ⟨fun _ => ⟨_, hE3, fun s9 e9 => ?_⟩, fun q => absurd (by rw [va_up_self]; exact cn) q⟩⟩), ⟨rfl, ?_⟩, ⟨fun k hk => ?_, fun r r0 r2 r5 => ?_, rfl, ?_, ⟨?_, ?_⟩, ?_, ?_⟩, sI_s _ _ _⟩
      · rw [stI_up] at e9
        subst e9
        rw [va_up_self, sI_n _ _ (by decide), sI_n _ _ (by decide), zm.2.1, zm.2.2]
        exact ⟨fun q => absurd q (by show ¬ nI 6 ≤ 0; decide), fun _ => ⟨rfl, rfl⟩⟩
      · apply Classical.byContradiction
        intro q
        exact cm (hmiss.mpr q)
      · rw [sI_n _ _ (by omega), zf.1 k (by omega)]
        exact kA.1 k (by omega)
      · show z.2.2 r = _
        rw [zf.2]
        exact kA.2 r r5
      · rw [sI_n _ _ (by decide)]
        exact zm.2.1
      · rw [sI_n _ _ (by decide), zf.1 3 (by decide)]
        exact kA.1 3 (by decide)
      · rw [sI_n _ _ (by decide), zf.1 4 (by decide)]
        exact kA.1 4 (by decide)
      · show z.2.2 0 = _
        rw [zf.2]
        exact kA.2 0 (by decide)
      · show z.2.2 2 = _
        rw [zf.2]
        exact kA.2 2 (by decide)
end TXQ
