/-! THE REFERENCE'S LIBRARY: a row of 62 -/
theorem nI_mul (a b : Nat) : nI a * nI b = nI (a * b) := (Int32.ofNat_mul a b).symm
theorem ixR (r c : Nat) : (24 + 4 * nI r) + nI c = nI (24 + 4 * r + c) := by
  show (nI 24 + nI 4 * nI r) + nI c = _
  rw [nI_mul, nI_add, nI_add]
theorem ixB (b c : Nat) : 3 * nI b + nI c = nI (3 * b + c) := by
  show nI 3 * nI b + nI c = _
  rw [nI_mul, nI_add]
def NR (a : Nat → Int32) (nb nr : Nat) (p : PS) : Prop := (∀ c, c < 3 → ∀ b, b < nb → a (3 * b + c) = p.1 c b) ∧ (∀ c, c < 4 → ∀ r, r < nr → a (24 + 4 * r + c) = p.1 (c + 3) r) ∧ (∀ j, j < 3 → a (40 + j) = p.2 j)
theorem upd_self (a : Nat → Int32) (i : Nat) (x : Int32) : upd a i x i = x := if_pos rfl
theorem upd_ne (a : Nat → Int32) {i j : Nat} (x : Int32) (h : j ≠ i) : upd a i x j = a j := if_neg h
theorem NR.rd {a : Nat → Int32} {nb nr : Nat} {p : PS} (h : NR a nb nr p) (h8 : nb ≤ 8) (h4 : nr ≤ 4) {c r : Nat} (hc : c < 4) (hr : r < nr) (x : Int32) : NR (upd a (24 + 4 * r + c) x) nb nr (pr p (c + 3) r x) := by
  obtain ⟨h1, h2, h3⟩ := h
  refine ⟨?_, ?_, ?_⟩
  · intro c2 hc2 b hb
    rw [upd_ne _ _ (by omega), pr_sta (by omega)]
    exact h1 c2 hc2 b hb
  · intro c2 hc2 r2 hr2
    by_cases e : c2 = c
    · subst e
      by_cases e2 : r2 = r
      · subst e2
        rw [upd_self, pr_self]
      · rw [upd_ne _ _ (by omega), pr_row e2]
        exact h2 c2 hc2 r2 hr2
    · rw [upd_ne _ _ (by omega), pr_sta (by omega)]
      exact h2 c2 hc2 r2 hr2
  · intro j hj
    rw [upd_ne _ _ (by omega)]
    exact h3 j hj
theorem NR.bw {a : Nat → Int32} {nb nr : Nat} {p : PS} (h : NR a nb nr p) (h8 : nb ≤ 8) (h4 : nr ≤ 4) {c b : Nat} (hc : c < 3) (hb : b < nb) (x : Int32) : NR (upd a (3 * b + c) x) nb nr (pr p c b x) := by
  obtain ⟨h1, h2, h3⟩ := h
  refine ⟨?_, ?_, ?_⟩
  · intro c2 hc2 b2 hb2
    by_cases e : c2 = c
    · subst e
      by_cases e2 : b2 = b
      · subst e2
        rw [upd_self, pr_self]
      · rw [upd_ne _ _ (by omega), pr_row e2]
        exact h1 c2 hc2 b2 hb2
    · rw [upd_ne _ _ (by omega), pr_sta (by omega)]
      exact h1 c2 hc2 b2 hb2
  · intro c2 hc2 r2 hr2
    rw [upd_ne _ _ (by omega), pr_sta (by omega)]
    exact h2 c2 hc2 r2 hr2
  · intro j hj
    rw [upd_ne _ _ (by omega)]
    exact h3 j hj
theorem NR.num {a : Nat → Int32} {nb nr : Nat} {p : PS} (h : NR a nb nr p) (h8 : nb ≤ 8) (h4 : nr ≤ 4) {j : Nat} (hj : j < 3) (x : Int32) : NR (upd a (40 + j) x) nb nr (pz p j x) := by
  obtain ⟨h1, h2, h3⟩ := h
  refine ⟨?_, ?_, ?_⟩
  · intro c2 hc2 b2 hb2
    rw [upd_ne _ _ (by omega)]
    exact h1 c2 hc2 b2 hb2
  · intro c2 hc2 r2 hr2
    rw [upd_ne _ _ (by omega)]
    exact h2 c2 hc2 r2 hr2
  · intro j2 hj2
    show _ = va_up p.2 j x j2
    by_cases e : j2 = j
    · subst e
      rw [upd_self, va_up_self]
    · rw [upd_ne _ _ (by omega), va_up_ne _ _ e]
      exact h3 j2 hj2
/-- the reference holds a library that goes, and what it counts: fetched, minutes, vertigos -/
def MM (v : OV) (nb nr : Nat) (p : PS) (f m w : Int32) : Prop := (v.1 3 = nI nb ∧ v.1 4 = nI nr) ∧ NR (v.2.2 1) nb nr p ∧ v.1 18 = f ∧ v.1 19 = m ∧ v.1 20 = w
/-- all else of the reference stays -/
def K0 (v0 v : OV) : Prop := (∀ k, k ≠ 18 → k ≠ 19 → k ≠ 20 → k ≠ 21 → v.1 k = v0.1 k) ∧ (∀ k, k ≠ 1 → v.2.2 k = v0.2.2 k) ∧ v.2.1 = v0.2.1
/-- and the end of the row that goes -/
def KN (v0 v : OV) : Prop := K0 v0 v ∧ ∀ j, 43 ≤ j → v.2.2 1 j = v0.2.2 1 j
theorem K0.rf (v : OV) : K0 v v := ⟨fun _ _ _ _ _ => rfl, fun _ _ => rfl, rfl⟩
theorem K0.tr {a b c : OV} (h : K0 a b) (h2 : K0 b c) : K0 a c := ⟨fun k h1 h3 h4 h5 => (h2.1 k h1 h3 h4 h5).trans (h.1 k h1 h3 h4 h5), fun k hk => (h2.2.1 k hk).trans (h.2.1 k hk), h2.2.2.trans h.2.2⟩
theorem K0.I (v : OV) {k : Nat} (x : Int32) (h : k = 18 ∨ k = 19 ∨ k = 20 ∨ k = 21) : K0 v (setI v k x) := ⟨fun j h1 h2 h3 h4 => va_up_ne _ _ (by omega), fun _ _ => rfl, rfl⟩
theorem K0.A (v : OV) (f : Nat → Int32) : K0 v (setA v 1 f) := ⟨fun _ _ _ _ _ => rfl, fun j h => va_up_ne _ _ h, rfl⟩
theorem KN.rf (v : OV) : KN v v := ⟨K0.rf v, fun _ _ => rfl⟩
theorem KN.tr {a b c : OV} (h : KN a b) (h2 : KN b c) : KN a c := ⟨h.1.tr h2.1, fun j hj => (h2.2 j hj).trans (h.2 j hj)⟩
theorem KN.I (v : OV) {k : Nat} (x : Int32) (h : k = 18 ∨ k = 19 ∨ k = 20 ∨ k = 21) : KN v (setI v k x) := ⟨K0.I v x h, fun _ _ => rfl⟩
theorem KN.A (v : OV) {i : Nat} {g : Nat → Int32} (x : Int32) (hi : i < 43) (hg : ∀ j, 43 ≤ j → g j = v.2.2 1 j) : KN v (setA v 1 (upd g i x)) := ⟨K0.A v _, fun j hj => by
  show va_up v.2.2 1 (upd g i x) 1 j = _
  rw [va_up_self, upd_ne _ _ (by omega)]
  exact hg j hj⟩
theorem MM.now {v : OV} {nb nr : Nat} {p q : PS} {f m w : Int32} (h : MM v nb nr p f m w) {g : Nat → Int32} (hg : NR g nb nr q) : MM (setA v 1 g) nb nr q f m w := ⟨h.1, (by show NR (va_up v.2.2 1 g 1) nb nr q; rw [va_up_self]; exact hg), h.2.2⟩
theorem MM.sf {v : OV} {nb nr : Nat} {p : PS} {f m w : Int32} (h : MM v nb nr p f m w) (x : Int32) : MM (setI v 18 x) nb nr p x m w := ⟨h.1, h.2.1, rfl, h.2.2.2⟩
theorem MM.sm {v : OV} {nb nr : Nat} {p : PS} {f m w : Int32} (h : MM v nb nr p f m w) (x : Int32) : MM (setI v 19 x) nb nr p f x w := ⟨h.1, h.2.1, h.2.2.1, rfl, h.2.2.2.2⟩
theorem MM.sw {v : OV} {nb nr : Nat} {p : PS} {f m w : Int32} (h : MM v nb nr p f m w) (x : Int32) : MM (setI v 20 x) nb nr p f m x := ⟨h.1, h.2.1, h.2.2.1, h.2.2.2.1, rfl⟩
theorem MM.sb {v : OV} {nb nr : Nat} {p : PS} {f m w : Int32} (h : MM v nb nr p f m w) (x : Int32) : MM (setI v 21 x) nb nr p f m w := ⟨h.1, h.2.1, h.2.2⟩
theorem dz_eq {h : Nat} (hh : h ≤ 9) (k : Int32) : (if k = 1 then (if nI h ≤ 5 then nI h else 2 * nI h - 5) else if k = 2 then 2 * nI h else if k = 3 then (if nI h ≤ 5 then nI h else 2 * nI h - 5) / 3 else nI h) = dzz k (nI h) := by
  have e : (if nI h ≤ 5 then nI h else 2 * nI h - 5) = nI h + mmax 0 (nI h - 5) := by
    have hd : ∀ h : Fin 10, (if nI h ≤ 5 then nI h else 2 * nI h - 5) = nI h + mmax 0 (nI h - 5) := by decide +kernel
    exact hd ⟨h, by omega⟩
  rw [e]
  rfl
theorem had1 (x : Int32) : (x &&& 1 = 1) ↔ ¬ (x &&& 1 = 0) := by
  have h : x &&& 1 = 0 ∨ x &&& 1 = 1 := by
    have h2 : (x &&& 1).toBitVec = 0 ∨ (x &&& 1).toBitVec = 1 := by
      have e : (x &&& 1).toBitVec = x.toBitVec &&& 1#32 := rfl
      rw [e]
      have e2 := BitVec.and_one_eq_setWidth_ofBool_getLsbD (x := x.toBitVec)
      rw [e2]
      cases x.toBitVec.getLsbD 0
      · exact Or.inl (by decide)
      · exact Or.inr (by decide)
    rcases h2 with h2 | h2
    · exact Or.inl (Int32.toBitVec_inj.mp h2)
    · exact Or.inr (Int32.toBitVec_inj.mp h2)
  rcases h with h | h
  · rw [h]
    decide
  · rw [h]
    decide
theorem mi1 (m c a x : Int32) : (m + a) + (x - (c + a)) = m + (x - c) := by
  grind
theorem mi0 (m c : Int32) : m + (c - c) = m := by
  grind
theorem mi2 (m c a x : Int32) : (m + (a - c)) + (x - a) = m + (x - c) := by
  grind
section MO
variable {l : Launch} {ad : ZA} {D : va_G} {ia : Nat → ClassId} {d nb nr r b c : Nat} {s : ZS} {p : PS} {f m w : Int32}
theorem mv_of (hM : MM (s 20) nb nr p f m w) (hp : PI nb nr p) (hc : c < 3) (hb : b < nb) : Ev l ad D ia d mX9_of [.ref (ad 20 0), .int (nI b), .int (nI c)] s (some (.int (p.1 c b))) s := by
  have h8 := hp.1.1
  refine eX9_of ?_
  rw [ixB, nI_clamp (by omega), hM.2.1.1 c hc b hb]
  exact ⟨vp_in_nI (by omega) (by omega), rfl, rfl⟩
theorem mv_ofR (hM : MM (s 20) nb nr p f m w) (hp : PI nb nr p) (hc : c < 4) (hr : r < nr) : Ev l ad D ia d mX9_ofReader [.ref (ad 20 0), .int (nI r), .int (nI c)] s (some (.int (p.1 (c + 3) r))) s := by
  have h4 := hp.1.2
  refine eX9_ofReader ?_
  rw [ixR, nI_clamp (by omega), hM.2.1.2.1 c hc r hr]
  exact ⟨vp_in_nI (by omega) (by omega), rfl, rfl⟩
theorem mv_beR (hM : MM (s 20) nb nr p f m w) (hp : PI nb nr p) (hc : c < 4) (hr : r < nr) (x : Int32) : ∃ v, Ev l ad D ia d mX9_becomesOf [.ref (ad 20 0), .int (nI r), .int (nI c), .int x] s none (va_up s 20 v) ∧ MM v nb nr (pr p (c + 3) r x) f m w ∧ KN (s 20) v ∧ v.1 21 = (s 20).1 21 := by
  have h4 := hp.1.2
  refine ⟨_, eX9_becomesOf ?_, hM.now (hM.2.1.rd hp.1.1 h4 hc hr x), KN.A _ _ (by omega) (fun _ _ => rfl), rfl⟩
  rw [ixR, nI_clamp (by omega)]
  exact ⟨vp_in_nI (by omega) (by omega), fun s2 e2 => ⟨rfl, e2.symm⟩⟩
theorem mv_had (hM : MM (s 20) nb nr p f m w) (hp : PI nb nr p) (hr : r < nr) : Ev l ad D ia (d + 1) mX9_had [.ref (ad 20 0), .int (nI r), .int (nI b)] s (some (.int (if hadq p r b = 0 then 0 else 1))) s := by
  refine eX9_had ⟨_, _, mv_ofR (c := 3) hM hp (by decide) hr, fun h => ⟨?_, rfl⟩, fun h => ⟨?_, rfl⟩⟩
  · have h2 : hadq p r b = 0 := by
      apply Classical.byContradiction
      intro hn
      exact h ((had1 _).mpr hn)
    rw [if_pos h2]
  · have h2 : ¬ hadq p r b = 0 := (had1 _).mp h
    rw [if_neg h2]
theorem mv_climb (k h : Int32) : Ev l ad D ia d mX9_climb [.int k, .int h] s (some (.int (clm k h))) s := by
  unfold clm
  refine eX9_climb ⟨fun h => ⟨?_, rfl⟩, fun h => ⟨?_, rfl⟩, fun h => ⟨?_, rfl⟩, fun h => ⟨?_, rfl⟩⟩
  · rw [if_pos h]
  · rw [if_neg (by rw [h]; decide), if_pos h]
  · rw [if_neg (by rw [h]; decide), if_neg (by rw [h]; decide), if_pos h]
  · rw [if_neg h.1, if_neg h.2.1, if_neg h.2.2]
theorem mv_dizz (k : Int32) {h : Nat} (hh : h ≤ 9) : Ev l ad D ia d mX9_dizziness [.int k, .int (nI h)] s (some (.int (dzz k (nI h)))) s := by
  rw [← dz_eq hh]
  refine eX9_dizziness ⟨fun h5 => ?_, fun h5 => ?_⟩
  · rw [if_pos h5]
    refine ⟨fun h => ⟨?_, rfl⟩, fun h => ⟨?_, rfl⟩, fun h => ⟨?_, rfl⟩, fun h => ⟨?_, rfl⟩⟩
    · rw [if_pos h]
    · rw [if_neg (by rw [h]; decide), if_pos h]
    · rw [if_neg (by rw [h]; decide), if_neg (by rw [h]; decide), if_pos h]
    · rw [if_neg h.1, if_neg h.2.1, if_neg h.2.2]
  · rw [if_neg h5]
    refine ⟨fun h => ⟨?_, rfl⟩, fun h => ⟨?_, rfl⟩, fun h => ⟨?_, rfl⟩, fun h => ⟨?_, rfl⟩⟩
    · rw [if_pos h]
    · rw [if_neg (by rw [h]; decide), if_pos h]
    · rw [if_neg (by rw [h]; decide), if_neg (by rw [h]; decide), if_pos h]
    · rw [if_neg h.1, if_neg h.2.1, if_neg h.2.2]
theorem c40 : (40 : Int32).toNatClampNeg = 40 := by decide
theorem c41 : (41 : Int32).toNatClampNeg = 41 := by decide
theorem c42 : (42 : Int32).toNatClampNeg = 42 := by decide
theorem mv_minutesOf (hM : MM (s 20) nb nr p f m w) (hp : PI nb nr p) (hr : r < nr) (hb : b < nb) : Ev l ad D ia (d + 1) mX9_minutesOf [.ref (ad 20 0), .int (nI r), .int (nI b)] s (some (.int (mns p r b))) s := by
  have e40 : (s 20).2.2 1 40 = p.2 0 := hM.2.1.2.2 0 (by decide)
  refine eX9_minutesOf ⟨_, _, mv_of (c := 0) hM hp (by decide) hb, vp_in_nI (n := 40) (by decide) (by decide), ?_⟩
  rw [c40, e40]
  unfold mns mabs
  refine ⟨fun h => ⟨_, _, mv_ofR (c := 0) hM hp (by decide) hr, _, _, mv_of (c := 1) hM hp (by decide) hb, _, _, mv_climb _ _, ?_, rfl⟩, fun h => ⟨_, _, mv_ofR (c := 0) hM hp (by decide) hr, _, _, mv_of (c := 1) hM hp (by decide) hb, _, _, mv_climb _ _, ?_, rfl⟩⟩
  · rw [if_pos h]
  · rw [if_neg h, Int32.zero_sub]
theorem mv_fetches (hM : MM (s 20) nb nr p f m w) (hp : PI nb nr p) (hr : r < nr) (hb : b < nb) : ∃ v, Ev l ad D ia (d + 2) mX9_fetches [.ref (ad 20 0), .int (nI r), .int (nI b)] s none (va_up s 20 v) ∧ MM v nb nr (fet p r b) (f + 1) (m + mns p r b) w ∧ KN (s 20) v ∧ v.1 21 = (s 20).1 21 := by
  have h8 := hp.1.1
  have h4 := hp.1.2
  have n1 := hM.2.1.num h8 h4 (j := 0) (by decide) (p.1 0 b)
  have k1 := hM.now n1
  have n2 := n1.num h8 h4 (j := 1) (by decide) (p.2 1 + mns p r b)
  have k2 := k1.now n2
  obtain ⟨v3, e3, k3, kn3, q3⟩ := mv_beR (l := l) (ad := ad) (D := D) (ia := ia) (d := d + 1) (c := 3) (s := va_up s 20 (setA (setA (s 20) 1 (upd ((s 20).2.2 1) (40 + 0) (p.1 0 b))) 1 (upd (upd ((s 20).2.2 1) (40 + 0) (p.1 0 b)) (40 + 1) (p.2 1 + mns p r b)))) (by rw [va_up_self]; exact k2) (p := pz (pz p 0 (p.1 0 b)) 1 (p.2 1 + mns p r b)) hp (by decide) hr (p.1 6 r ||| (1 <<< (nI b &&& 31)))
  rw [up_up] at e3
  rw [va_up_self] at kn3 q3
  have k4 := k3.sm (m + mns p r b)
  have k5 := k4.sf (f + 1)
  have hfe : pr (pz (pz p 0 (p.1 0 b)) 1 (p.2 1 + mns p r b)) 6 r (p.1 6 r ||| (1 <<< (nI b &&& 31))) = fet p r b := by
    unfold fet pr pz
    refine Prod.ext rfl ?_
    funext j
    show va_up (va_up p.2 0 _) 1 _ j = va_up (va_up p.2 1 _) 0 _ j
    unfold va_up
    by_cases a : j = 0
    · simp [a]
    · by_cases a1 : j = 1 <;> simp [a, a1]
  have k5 : MM (setI (setI v3 19 (m + mns p r b)) 18 (f + 1)) nb nr (fet p r b) (f + 1) (m + mns p r b) w := by rw [← hfe]; exact k5
  refine ⟨_, ?_, k5, ((((KN.A (s 20) (p.1 0 b) (i := 40 + 0) (by decide) (fun _ _ => rfl)).tr (KN.A _ (p.2 1 + mns p r b) (i := 40 + 1) (by decide) (fun _ _ => rfl))).tr kn3).tr (KN.I _ _ (by decide))).tr (KN.I _ _ (by decide)), ?_⟩
  · refine eX9_fetches ⟨_, _, mv_minutesOf hM hp hr hb, _, _, mv_of (c := 0) hM hp (by decide) hb, vp_in_nI (n := 40) (by decide) (by decide), ?_⟩
    intro s1 e1
    rw [c40] at e1
    have e1 : s1 = va_up s 20 (setA (s 20) 1 (upd ((s 20).2.2 1) (40 + 0) (p.1 0 b))) := e1
    subst e1
    refine ⟨vp_in_nI (n := 41) (by decide) (by decide), vp_in_nI (n := 41) (by decide) (by decide), ?_⟩
    intro s2 e2
    have q2 : (va_up s 20 (setA (s 20) 1 (upd ((s 20).2.2 1) (40 + 0) (p.1 0 b))) 20).2.2 1 41 = p.2 1 := by rw [va_up_self]; exact k1.2.1.2.2 1 (by decide)
    rw [c41, q2, stA_up] at e2
    have e2 : s2 = va_up s 20 (setA (setA (s 20) 1 (upd ((s 20).2.2 1) (40 + 0) (p.1 0 b))) 1 (upd (upd ((s 20).2.2 1) (40 + 0) (p.1 0 b)) (40 + 1) (p.2 1 + mns p r b))) := by
      rw [e2]
      rfl
    subst e2
    refine ⟨_, _, mv_ofR (c := 3) (p := pz (pz p 0 (p.1 0 b)) 1 (p.2 1 + mns p r b)) (by rw [va_up_self]; exact k2) hp (by decide) hr, _, e3, ?_⟩
    intro s4 e4
    rw [va_up_self, k3.2.2.2.1, stI_up] at e4
    subst e4
    intro s5 e5
    rw [va_up_self, k4.2.2.1, stI_up] at e5
    exact ⟨rfl, e5.symm⟩
  · exact q3
theorem mv_over {C : ZC} {v : OV} {x2 x4 : Int32} {X : Option Value} {Y : ZS} (hC : Zok ad D ia C (d + 3) cX9_readerGoes 7 RX9 none) (hX : X = none) (hY : Y = va_up s 20 v) : Z l ad D ia C X Y 13 [(0, .ref (ad 20 0)), (1, .int (nI r)), (2, .int x2), (3, .int 1), (4, .int x4)] [] (va_up s 20 v) :=
  bX9_readerGoes_13 hC ⟨fun _ => ⟨hX, hY⟩, fun _ => ⟨fun _ => ⟨hX, hY⟩, fun h => absurd h (by decide)⟩⟩
theorem mv_turns (hr : r < nr) : ∀ (n t : Nat) (z : Int32) (p : PS) (f m w : Int32) (v : OV), t + n = 9 → MM v nb nr p f m w → PI nb nr p → v.1 21 = -4 →
    ∃ v2, (MM v2 nb nr (gd n p r z f w).1 (gd n p r z f w).2.1 (m + ((gd n p r z f w).1.2 1 - p.2 1)) (gd n p r z f w).2.2.1 ∧ KN v v2 ∧ v2.1 21 = (gd n p r z f w).2.2.2) ∧ ∀ C : ZC, Zok ad D ia C (d + 3) cX9_readerGoes 7 RX9 none → Z l ad D ia C none (va_up s 20 v2) 13 [(0, .ref (ad 20 0)), (1, .int (nI r)), (2, .int z), (3, .int 0), (4, .int (nI t))] [] (va_up s 20 v) := by
  intro n
  induction n with
  | zero =>
    intro t z p f m w v ht hM hp hv
    refine ⟨v, ⟨?_, KN.rf v, hv⟩, fun C hC => bX9_readerGoes_13 hC ⟨fun _ => ⟨rfl, rfl⟩, fun h => absurd (nI_lt (a := 8) (b := t) (by omega) (by omega)) h⟩⟩
    show MM v nb nr p f (m + (p.2 1 - p.2 1)) w
    rw [mi0]
    exact hM
  | succ n ih =>
    intro t z p f m w v ht hM hp hv
    have hM2 : MM (va_up s 20 v 20) nb nr p f m w := by rw [va_up_self]; exact hM
    have hn8 : ¬ (8 : Int32) < nI t := nI_nlt (a := 8) (b := t) (by omega) (by omega)
    have hwt := mv_ofR (l := l) (ad := ad) (D := D) (ia := ia) (d := d + 2) (c := 1) hM2 hp (by decide) hr
    unfold gd
    by_cases c1 : p.1 4 r = -4
    · rw [if_pos c1]
      refine ⟨v, ⟨?_, KN.rf v, hv⟩, fun C hC => bX9_readerGoes_13 hC ⟨fun h => absurd h hn8, fun _ => ⟨fun h => absurd rfl h, fun _ => ⟨_, _, hwt, fun h => absurd c1 h, fun _ => mv_over hC rfl rfl⟩⟩⟩⟩
      show MM v nb nr p f (m + (p.2 1 - p.2 1)) w
      rw [mi0]
      exact hM
    · rw [if_neg c1]
      obtain ⟨hb, hbe⟩ := okB_bk (hp.2.2.1 r hr) c1 hp.1.1
      generalize hbg : bk (p.1 4 r) = b at *
      have hwt : Ev l ad D ia (d + 2) mX9_ofReader [.ref (ad 20 0), .int (nI r), .int 1] (va_up s 20 v) (some (.int (nI b))) (va_up s 20 v) := by rw [← hbe]; exact hwt
      have hhd := mv_had (l := l) (ad := ad) (D := D) (ia := ia) (d := d + 1) (b := b) hM2 hp hr
      by_cases c2 : hadq p r b = 0
      · rw [if_pos c2] at hhd
        rw [if_pos c2]
        have hkd := mv_ofR (l := l) (ad := ad) (D := D) (ia := ia) (d := d + 2) (c := 0) hM2 hp (by decide) hr
        have hht := mv_of (l := l) (ad := ad) (D := D) (ia := ia) (d := d + 2) (c := 1) hM2 hp (by decide) hb
        obtain ⟨hh, hh9, hhe⟩ := hp.2.2.2 b hb
        have hdz := mv_dizz (l := l) (ad := ad) (D := D) (ia := ia) (d := d + 2) (s := va_up s 20 v) (p.1 3 r) hh9
        rw [← hhe] at hdz
        have hbr := mv_ofR (l := l) (ad := ad) (D := D) (ia := ia) (d := d + 2) (c := 2) hM2 hp (by decide) hr
        by_cases c3 : z + dzz (p.1 3 r) (p.1 1 b) ≤ p.1 5 r
        · rw [if_pos c3]
          obtain ⟨v1, hev, hM1, kn1, q1⟩ := mv_fetches (l := l) (ad := ad) (D := D) (ia := ia) (d := d) hM2 hp hr hb
          rw [up_up] at hev
          rw [va_up_self] at kn1 q1
          have hM1b : MM (va_up s 20 v1 20) nb nr (fet p r b) (f + 1) (m + mns p r b) w := by rw [va_up_self]; exact hM1
          have hld := mv_of (l := l) (ad := ad) (D := D) (ia := ia) (d := d + 2) (c := 2) hM1b (PI_fet hp) (by decide) hb
          rw [fet_row (by decide)] at hld
          obtain ⟨v3, hev3, hM3, kn3, q3⟩ := mv_beR (l := l) (ad := ad) (D := D) (ia := ia) (d := d + 2) (c := 1) hM1b (PI_fet hp) (by decide) hr (p.1 2 b)
          rw [up_up] at hev3
          rw [va_up_self] at kn3 q3
          obtain ⟨v2, ⟨hv2, kn2, q2⟩, hz⟩ := ih (t + 1) (z + dzz (p.1 3 r) (p.1 1 b)) _ (f + 1) _ w v3 (by omega) hM3 (PI_want (PI_fet hp) (hp.2.1 b hb)) (by rw [q3, q1, hv])
          have e5 : (pr (fet p r b) (1 + 3) r (p.1 2 b)).2 1 = p.2 1 + mns p r b := rfl
          rw [e5, mi1] at hv2
          refine ⟨v2, ⟨hv2, (kn1.tr kn3).tr kn2, q2⟩, fun C hC => bX9_readerGoes_13 hC ⟨fun h => absurd h hn8, fun _ => ⟨fun h => absurd rfl h, fun _ => ⟨_, _, hwt, fun _ => ⟨_, _, hhd, fun _ => ⟨_, _, hkd, _, _, hht, _, _, hdz, _, _, hbr, fun _ => ⟨_, hev, _, _, hld, _, hev3, ?_⟩, fun h => absurd c3 h⟩, fun h => absurd rfl h⟩, fun h => absurd h (nI_n4 (by have := hp.1.1; omega))⟩⟩⟩⟩
          rw [nI_1]
          exact hz C hC
        · rw [if_neg c3]
          refine ⟨_, ⟨(?_ : MM _ nb nr p f (m + (p.2 1 - p.2 1)) (w + 1)), (KN.I v (p.1 4 r) (k := 21) (by decide)).tr (KN.I _ (w + 1) (k := 20) (by decide)), ?_⟩, fun C hC => bX9_readerGoes_13 hC ⟨fun h => absurd h hn8, fun _ => ⟨fun h => absurd rfl h, fun _ => ⟨_, _, hwt, fun _ => ⟨_, _, hhd, fun _ => ⟨_, _, hkd, _, _, hht, _, _, hdz, _, _, hbr, fun h => absurd h c3, fun _ => ?_⟩, fun h => absurd rfl h⟩, fun h => absurd h (nI_n4 (by have := hp.1.1; omega))⟩⟩⟩⟩
          · rw [mi0]
            exact (hM.sb (p.1 4 r)).sw (w + 1)
          · rfl
          · intro s1 e1
            rw [stI_up] at e1
            subst e1
            intro s2 e2
            rw [va_up_self, (hM.sb (nI b)).2.2.2.2, stI_up] at e2
            subst e2
            exact mv_over hC rfl (by rw [hbe])
      · rw [if_neg c2] at hhd
        rw [if_neg c2]
        obtain ⟨v3, hev3, hM3, kn3, q3⟩ := mv_beR (l := l) (ad := ad) (D := D) (ia := ia) (d := d + 2) (c := 1) hM2 hp (by decide) hr (-4)
        rw [up_up] at hev3
        rw [va_up_self] at kn3 q3
        refine ⟨v3, ⟨(?_ : MM _ nb nr (pr p 4 r (-4)) f (m + (p.2 1 - p.2 1)) w), kn3, by rw [q3, hv]⟩, fun C hC => bX9_readerGoes_13 hC ⟨fun h => absurd h hn8, fun _ => ⟨fun h => absurd rfl h, fun _ => ⟨_, _, hwt, fun _ => ⟨_, _, hhd, fun h => absurd h (by decide), fun _ => ⟨_, hev3, mv_over hC rfl rfl⟩⟩, fun h => absurd h (nI_n4 (by have := hp.1.1; omega))⟩⟩⟩⟩
        rw [mi0]
        exact hM3
theorem mv_readerGoes (hM : MM (s 20) nb nr p f m w) (hp : PI nb nr p) (hr : r < nr) : ∃ v, Ev l ad D ia (d + 3) mX9_readerGoes [.ref (ad 20 0), .int (nI r)] s none (va_up s 20 v) ∧ MM v nb nr (gd 9 p r 0 f w).1 (gd 9 p r 0 f w).2.1 (m + ((gd 9 p r 0 f w).1.2 1 - p.2 1)) (gd 9 p r 0 f w).2.2.1 ∧ KN (s 20) v ∧ v.1 21 = (gd 9 p r 0 f w).2.2.2 := by
  obtain ⟨v2, ⟨hv2, kn2, q2⟩, hz⟩ := mv_turns (l := l) (ad := ad) (D := D) (ia := ia) (d := d) (s := s) hr 9 0 0 p f m w (setI (s 20) 21 (-4)) rfl (hM.sb (-4)) hp rfl
  refine ⟨v2, eX9_readerGoes (fun C hC s1 e1 => ?_), hv2, (KN.I (s 20) (-4) (k := 21) (by decide)).tr kn2, q2⟩
  have e1 : s1 = va_up s 20 (setI (s 20) 21 (-4)) := e1
  subst e1
  exact hz C hC
theorem mv_dayL : ∀ (k r : Nat) (p : PS) (f m w : Int32) (v : OV), r + k = nr → MM v nb nr p f m w → PI nb nr p →
    ∃ v2, (MM v2 nb nr (pz (dyR k r p f w).1 2 ((dyR k r p f w).1.2 2 + 1)) (dyR k r p f w).2.1 (m + ((dyR k r p f w).1.2 1 - p.2 1)) (dyR k r p f w).2.2 ∧ KN v v2) ∧ ∀ C : ZC, Zok ad D ia C (d + 4) cX9_dayGoes 2 RX9 none → Z l ad D ia C none (va_up s 20 v2) 2 [(0, .ref (ad 20 0)), (1, .int (nI r))] [] (va_up s 20 v) := by
  intro k
  induction k with
  | zero =>
    intro r p f m w v hk hM hp
    have hr4 : nr ≤ 4 := hp.1.2
    have h42 : v.2.2 1 42 = p.2 2 := hM.2.1.2.2 2 (by decide)
    refine ⟨_, ⟨(?_ : MM _ nb nr (pz p 2 (p.2 2 + 1)) f (m + (p.2 1 - p.2 1)) w), KN.A v (p.2 2 + 1) (i := 40 + 2) (by decide) (fun _ _ => rfl)⟩, fun C hC => bX9_dayGoes_2 hC ⟨fun _ => ⟨vp_in_nI (n := 42) (by decide) (by decide), vp_in_nI (n := 42) (by decide) (by decide), fun s1 e1 => ?_⟩, fun h => ?_⟩⟩
    · rw [mi0]
      exact hM.now (hM.2.1.num hp.1.1 hr4 (j := 2) (by decide) (p.2 2 + 1))
    · rw [va_up_self, c42, h42, stA_up] at e1
      exact ⟨rfl, e1.symm⟩
    · rw [va_up_self, hM.1.2] at h
      exact absurd (nI_le (a := nr) (b := r) (by omega) (by omega)) h
  | succ k ih =>
    intro r p f m w v hk hM hp
    have hr4 : nr ≤ 4 := hp.1.2
    have hM2 : MM (va_up s 20 v 20) nb nr p f m w := by rw [va_up_self]; exact hM
    obtain ⟨v1, hev, hM1, kn1, -⟩ := mv_readerGoes (l := l) (ad := ad) (D := D) (ia := ia) (d := d) (r := r) hM2 hp (by omega)
    rw [up_up] at hev
    rw [va_up_self] at kn1
    obtain ⟨v2, ⟨hv2, kn2⟩, hz⟩ := ih (r + 1) _ _ _ _ v1 (by omega) hM1 (PI_gd 9 hp (by omega))
    refine ⟨v2, ⟨?_, kn1.tr kn2⟩, fun C hC => bX9_dayGoes_2 hC ⟨fun h => ?_, fun _ => ⟨_, hev, ?_⟩⟩⟩
    · rw [mi2] at hv2
      exact hv2
    · rw [va_up_self, hM.1.2] at h
      exact absurd h (nI_ge (by omega) (by omega))
    · rw [nI_1]
      exact hz C hC
theorem mv_dayGoes (hM : MM (s 20) nb nr p f m w) (hp : PI nb nr p) : ∃ v, Ev l ad D ia (d + 4) mX9_dayGoes [.ref (ad 20 0)] s none (va_up s 20 v) ∧ MM v nb nr (day nr (p, f, w)).1 (day nr (p, f, w)).2.1 (m + ((day nr (p, f, w)).1.2 1 - p.2 1)) (day nr (p, f, w)).2.2 ∧ KN (s 20) v := by
  obtain ⟨v2, ⟨hv2, kn2⟩, hz⟩ := mv_dayL (l := l) (ad := ad) (D := D) (ia := ia) (d := d) (s := s) nr 0 p f m w (s 20) (by omega) hM hp
  rw [up_id] at hz
  exact ⟨v2, eX9_dayGoes hz, hv2, kn2⟩
theorem mv_startsCounting (hM : MM (s 20) nb nr p f m w) : ∃ v, Ev l ad D ia d mX9_startsCounting [.ref (ad 20 0)] s none (va_up s 20 v) ∧ MM v nb nr p 0 0 0 ∧ KN (s 20) v := by
  refine ⟨_, eX9_startsCounting ?_, ((hM.sf 0).sm 0).sw 0, ((KN.I (s 20) 0 (k := 18) (by decide)).tr (KN.I _ 0 (k := 19) (by decide))).tr (KN.I _ 0 (k := 20) (by decide))⟩
  intro s1 e1 s2 e2 s3 e3
  have e1 : s1 = va_up s 20 (setI (s 20) 18 0) := e1
  subst e1
  rw [stI_up] at e2
  subst e2
  rw [stI_up] at e3
  exact ⟨rfl, e3.symm⟩
theorem mv_daysL {N : Nat} (hN : N < 2 ^ 31) : ∀ (k i : Nat) (q : PS × Int32 × Int32) (m : Int32) (v : OV), i + k = N → MM v nb nr q.1 q.2.1 m q.2.2 → PI nb nr q.1 →
    ∃ v2, (MM v2 nb nr (days nr k q).1 (days nr k q).2.1 (m + ((days nr k q).1.2 1 - q.1.2 1)) (days nr k q).2.2 ∧ KN v v2) ∧ ∀ C : ZC, Zok ad D ia C (d + 5) cX9_daysGo 3 RX9 none → Z l ad D ia C none (va_up s 20 v2) 6 [(0, .ref (ad 20 0)), (1, .int (nI N)), (2, .int (nI i))] [] (va_up s 20 v) := by
  intro k
  induction k with
  | zero =>
    intro i q m v hk hM hp
    refine ⟨v, ⟨(?_ : MM v nb nr q.1 q.2.1 (m + (q.1.2 1 - q.1.2 1)) q.2.2), KN.rf v⟩, fun C hC => bX9_daysGo_6 hC ⟨fun _ => ⟨rfl, rfl⟩, fun h => absurd (nI_le (a := N) (b := i) (by omega) (by omega)) h⟩⟩
    rw [mi0]
    exact hM
  | succ k ih =>
    intro i q m v hk hM hp
    have hM2 : MM (va_up s 20 v 20) nb nr q.1 q.2.1 m q.2.2 := by rw [va_up_self]; exact hM
    obtain ⟨v1, hev, hM1, kn1⟩ := mv_dayGoes (l := l) (ad := ad) (D := D) (ia := ia) (d := d) hM2 hp
    rw [up_up] at hev
    rw [va_up_self] at kn1
    obtain ⟨v2, ⟨hv2, kn2⟩, hz⟩ := ih (i + 1) (day nr q) _ v1 (by omega) hM1 (PI_day hp)
    refine ⟨v2, ⟨?_, kn1.tr kn2⟩, fun C hC => bX9_daysGo_6 hC ⟨fun h => absurd h (nI_ge (by omega) (by omega)), fun _ => ⟨_, hev, ?_⟩⟩⟩
    · rw [mi2] at hv2
      exact hv2
    · rw [nI_1]
      exact hz C hC
/-- n days, counted from 0 -/
theorem mv_daysGo {N : Nat} (hN : N < 2 ^ 31) (hM : MM (s 20) nb nr p f m w) (hp : PI nb nr p) : ∃ v, Ev l ad D ia (d + 5) mX9_daysGo [.ref (ad 20 0), .int (nI N)] s none (va_up s 20 v) ∧ MM v nb nr (days nr N (p, 0, 0)).1 (days nr N (p, 0, 0)).2.1 ((days nr N (p, 0, 0)).1.2 1 - p.2 1) (days nr N (p, 0, 0)).2.2 ∧ KN (s 20) v := by
  obtain ⟨v1, hev, hM1, kn1⟩ := mv_startsCounting (l := l) (ad := ad) (D := D) (ia := ia) (d := d + 4) hM
  obtain ⟨v2, ⟨hv2, kn2⟩, hz⟩ := mv_daysL (l := l) (ad := ad) (D := D) (ia := ia) (d := d) (s := s) hN N 0 (p, 0, 0) 0 v1 (by omega) hM1 hp
  refine ⟨v2, eX9_daysGo (fun C hC => ⟨_, hev, hz C hC⟩), ?_, kn1.tr kn2⟩
  rw [Int32.zero_add] at hv2
  exact hv2
end MO
