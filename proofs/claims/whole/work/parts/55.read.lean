/-! READ: fetchings from a sheet -/
def rsC (q : Int32 × Int32 × (Nat → Int32)) (n : Nat) (x : Int32) (e : Int) : Int32 := if q.1 = -4 then 1 else if q.1 = x then (if 0 ≤ e ∧ e < n then 0 else 2) else 3
def rsP (q : Int32 × Int32 × (Nat → Int32)) (n : Nat) (x f : Int32) (i : Nat) : Int32 := if rsC q n x (f.toInt + 2 * i) = 0 then rsC q n x (f.toInt + 2 * i + 1) else rsC q n x (f.toInt + 2 * i)
def rdC (q : Int32 × Int32 × (Nat → Int32)) (f : Int32) (i : Nat) : Int32 := q.2.2 (f.toInt + 2 * i).toNat
def rdE (q : Int32 × Int32 × (Nat → Int32)) (f : Int32) (i : Nat) : Int32 := q.2.2 ((f.toInt + 2 * i).toNat + 1)
def rdF (nb nr : Nat) (h : Int32 × Int32 × (Nat → Int32)) (n : Nat) (x f : Int32) : Nat → Nat → PS → Option (PS × Int32) × Nat
  | 0, i, q => (some (q, 0), i)
  | k + 1, i, q => if rsP h n x f i = 0 then (if rfs nb nr q (rdC h f i) (rdE h f i) = 0 then rdF nb nr h n x f k (i + 1) (fet q (bk (rdC h f i)) (bk (rdE h f i))) else (none, i)) else (some (q, rsP h n x f i), i)
def rdX (t : Option (PS × Int32) × Nat) : Int32 := match t.1 with
  | some _ => nI t.2
  | none => -20 - nI t.2
theorem rsC_0 {q : Int32 × Int32 × (Nat → Int32)} {n : Nat} {x : Int32} {e : Int} (h : rsC q n x e = 0) : 0 ≤ e ∧ e < n := by
  unfold rsC at h
  by_cases c : q.1 = -4
  · rw [if_pos c] at h
    exact absurd h (by decide)
  · rw [if_neg c] at h
    by_cases c2 : q.1 = x
    · rw [if_pos c2] at h
      by_cases c3 : 0 ≤ e ∧ e < n
      · exact c3
      · rw [if_neg c3] at h
        exact absurd h (by decide)
    · rw [if_neg c2] at h
      exact absurd h (by decide)
theorem rsP_0 {q : Int32 × Int32 × (Nat → Int32)} {n : Nat} {x f : Int32} {i : Nat} (h : rsP q n x f i = 0) : 0 ≤ f.toInt + 2 * i ∧ f.toInt + 2 * i + 1 < n := by
  unfold rsP at h
  by_cases c : rsC q n x (f.toInt + 2 * i) = 0
  · rw [if_pos c] at h
    have h1 := rsC_0 c
    have h2 := rsC_0 h
    omega
  · rw [if_neg c] at h
    exact absurd h c
theorem adI (f : Int32) {k : Nat} (hk : k < 1000) : (f + nI k).toInt = f.toInt + k ∨ (f + nI k).toInt = f.toInt + k - 4294967296 ∧ 2147483648 ≤ f.toInt + k := by
  have h1 := Int32.toInt_lt f
  have h2 := Int32.le_toInt f
  rw [Int32.toInt_add, nI_toInt (by omega)]
  rw [Int.bmod_def]
  omega
theorem in_ad (f : Int32) {k n : Nat} (hk : k < 1000) (hn : n ≤ 40) : inN (f + nI k) n = decide (0 ≤ f.toInt + k ∧ f.toInt + k < n) := by
  unfold inN
  have h1 := Int32.toInt_lt f
  congr 1
  apply propext
  rcases adI f hk with h | h <;> omega
theorem at_ad (f : Int32) {k n : Nat} (hk : k < 1000) (hn : n ≤ 40) (h : 0 ≤ f.toInt + k ∧ f.toInt + k < n) : f + nI k = nI (f.toInt + k).toNat := by
  apply Int32.toInt_inj.mp
  rw [nI_toInt (by omega)]
  rcases adI f hk with e | e <;> omega
theorem sh_rs {q : Int32 × Int32 × (Nat → Int32)} {n : Nat} {x f : Int32} {k : Nat} (hk : k < 1000) (hn : n ≤ 40) : shF q n x (f + nI k) = rsC q n x (f.toInt + k) := by
  unfold shF rsC
  rw [in_ad f hk hn]
  by_cases c : 0 ≤ f.toInt + k ∧ f.toInt + k < n
  · rw [if_pos c, decide_eq_true c]
    rfl
  · rw [if_neg c, decide_eq_false c]
    rfl
theorem l_ad (f : Int32) {k c : Nat} (hk : k < 1000) (hc : c < 1000) : ((f.toInt64 + (nI k).toInt64) + (nI c).toInt64).toInt = f.toInt + k + c := by
  have h1 := Int32.toInt_lt f
  have h2 := Int32.le_toInt f
  rw [Int64.toInt_add, Int64.toInt_add, i64_toInt, i64_toInt, i64_toInt, nI_toInt (by omega), nI_toInt (by omega), Int.bmod_def, Int.bmod_def]
  omega
theorem MR_tn {v : OV} {nb nr : Nat} {p : PS} {tl : Nat} {tb : Nat → Int32} {flt : Int32} {sn : Nat} {sa : Nat → Nat → Int32} {K : KT} {H : HT} {tn : Int32} (h : MR v nb nr p tl tb flt sn sa K H tn) (x : Int32) : MR (setI v 32 x) nb nr p tl tb flt sn sa K H x := by
  obtain ⟨h1, h2, h3, h4, h5, h6⟩ := h
  exact ⟨h1, h2, ⟨h3.1, va_up_self v.1 32 x⟩, h4, h5, h6⟩
theorem CR_tn {s : ZS} {nb nr : Nat} {p : PS} {tl : Nat} {tb : Nat → Int32} {flt : Int32} {sn : Nat} {sa : Nat → Nat → Int32} {K : KT} {H : HT} {tn : Int32} (h : CR s nb nr p tl tb flt sn sa K H tn) (x : Int32) : CR (va_up s 0 (setI (s 0) 7 x)) nb nr p tl tb flt sn sa K H x := by
  have e : ∀ o, o ≠ 0 → va_up s 0 (setI (s 0) 7 x) o = s o := fun o ho => va_up_ne _ _ ho
  obtain ⟨h1, h2, h3, h4, h5, h6⟩ := h
  refine ⟨by rw [e 1 (by omega)]; exact h1, by rw [e 16 (by omega)]; exact h2, by rw [va_up_self]; exact ⟨h3.1, va_up_self (s 0).1 7 x⟩, by rw [e 7 (by omega)]; exact h4, ?_, ?_⟩
  · intro i hi
    rw [e (10 + i) (by omega), e (5 + i) (by omega), e (8 + i) (by omega)]
    exact h5 i hi
  · intro i hi
    rw [e (12 + i) (by omega)]
    exact h6 i hi
section RDS
variable {l : Launch} {ad : ZA} {D : va_G} {ia : Nat → ClassId} {d nb nr r b o o1 sn : Nat} {s : ZS} {p : PS} {f m w : Int32}
def rdS (s : ZS) (nb nr : Nat) (S2 : ZS) (t : Option (PS × Int32)) : Prop := match t with
  | some q => ∃ u2 v1, HQ v1 nb nr q.1 ∧ S2 = va_up (va_up (va_up s 2 u2) 1 v1) 0 (setI (s 0) 7 q.2)
  | none => ∃ u2, S2 = va_up s 2 u2
theorem ev_rdL {kk N n : Nat} {h : Int32 × Int32 × (Nat → Int32)} {x g : Int32} (hkk : kk < 4) (hN : N ≤ 20) (hn : n ≤ 40) (c1 : (s (12 + kk)).1 0 = h.1) (c2 : (s (12 + kk)).1 1 = nI n) (c3 : ∀ i, i < 40 → (s (12 + kk)).2.2 2 i = h.2.2 i) : ∀ (k i : Nat) (q : PS) (f w : Int32) (u : OV), i + k = N → HR u nb nr q f w → PB nb nr q → ∃ S2, rdS s nb nr S2 (rdF nb nr h n x g k i q).1 ∧ ∀ C : ZC, Zok ad D ia C (d + 4) cX8_read 12 RX8 (some .int) → Z l ad D ia C (some (.int (rdX (rdF nb nr h n x g k i q)))) S2 52 [(0, .ref (ad 0 0)), (2, .int x), (3, .int g), (4, .int (nI N)), (5, .ref (ad (12 + kk) 0)), (6, .int (nI i)), (7, .int 0), (8, .int (nI i))] [] (va_up s 2 u) := by
  have zz := zc12 hkk
  have fin : ∀ (q : PS) (f w : Int32) (u : OV) (t : Int32), PB nb nr q → HR u nb nr q f w → ∃ v1, HQ v1 nb nr q ∧ Ev l ad D ia (d + 3) mX0_copyFrom [.ref (ad 1 0), .ref (ad 2 0)] (va_up s 2 u) none (va_up (va_up s 2 u) 1 v1) ∧ stI (va_up (va_up s 2 u) 1 v1) 0 7 t = va_up (va_up (va_up s 2 u) 1 v1) 0 (setI (s 0) 7 t) := by
    intro q f w u t hp hH
    have hHb : HR (va_up s 2 u 2) nb nr q f w := by rw [va_up_self]; exact hH
    obtain ⟨v1, e1, hv1⟩ := ev_copyFrom (l := l) (ad := ad) (D := D) (ia := ia) (d := d + 2) (s := va_up s 2 u) (o := 1) (o1 := 2) rfl rfl (by decide) hHb hp.1.1.1 hp.1.1.2
    refine ⟨v1, ⟨0, 0, hv1⟩, e1, ?_⟩
    unfold stI
    rw [va_up_ne _ v1 (show (0 : Nat) ≠ 1 by decide), va_up_ne _ u (show (0 : Nat) ≠ 2 by decide)]
  intro k
  induction k with
  | zero =>
    intro i q f w u hi hH hp
    obtain ⟨v1, hv1, e1, es⟩ := fin q f w u 0 hp hH
    refine ⟨va_up (va_up (va_up s 2 u) 1 v1) 0 (setI (s 0) 7 0), ⟨u, v1, hv1, rfl⟩, fun C hC => bX8_read_52 zz hC ⟨fun _ => ⟨_, e1, fun s1 e2 => ⟨rfl, ?_⟩⟩, fun h => absurd (nI_le (by omega) (by omega)) h⟩⟩
    rw [e2, es]
  | succ k ih =>
    intro i q f w u hi hH hp
    have hnl : ¬ nI N ≤ nI i := nI_ge (by omega) (by omega)
    have e2i : 2 * nI i = nI (2 * i) := pk_mul 2 i
    have hob : va_up s 2 u (12 + kk) = s (12 + kk) := va_up_ne _ _ (by omega)
    have hf0 := ev_faultAt (l := l) (ad := ad) (D := D) (ia := ia) (d := d + 1) (s := va_up s 2 u) (o := 12 + kk) zz (q := h) (n := n) (by rw [hob]; exact c1) (by rw [hob]; exact c2) hn x (g + nI (2 * i))
    have hf1 := ev_faultAt (l := l) (ad := ad) (D := D) (ia := ia) (d := d + 1) (s := va_up s 2 u) (o := 12 + kk) zz (q := h) (n := n) (by rw [hob]; exact c1) (by rw [hob]; exact c2) hn x (g + nI (2 * i) + 1)
    have eg1 : g + nI (2 * i) + 1 = g + nI (2 * i + 1) := by
      rw [← nI_1]
      grind
    rw [eg1, sh_rs (k := 2 * i + 1) (by omega) hn] at hf1
    rw [sh_rs (k := 2 * i) (by omega) hn] at hf0
    have ec0 : g.toInt + ((2 * i : Nat) : Int) = g.toInt + 2 * i := by omega
    have ec1 : g.toInt + ((2 * i + 1 : Nat) : Int) = g.toInt + 2 * i + 1 := by omega
    rw [ec0] at hf0
    rw [ec1] at hf1
    have hpf : Ev l ad D ia (d + 3) mX5_faultOfPair [.ref (ad (12 + kk) 0), .int x, .int (g + 2 * nI i)] (va_up s 2 u) (some (.int (rsP h n x g i))) (va_up s 2 u) := by
      rw [e2i]
      refine eX5_faultOfPair zz ⟨_, _, hf0, fun c => ⟨rsC h n x (g.toInt + 2 * i + 1), va_up s 2 u, ?_, ?_, rfl⟩, fun c => ⟨?_, rfl⟩⟩
      · rw [eg1]
        exact hf1
      · unfold rsP
        rw [if_pos c]
      · unfold rsP
        rw [if_neg c]
    by_cases c : rsP h n x g i = 0
    · have hr0 := rsP_0 c
      have eix : g + nI (2 * i) = nI (g.toInt + 2 * i).toNat := by
        have := at_ad g (k := 2 * i) (n := n) (by omega) hn (by omega)
        rw [ec0] at this
        exact this
      have hlt : (g.toInt + 2 * i).toNat + 1 < n := by omega
      have a0 : (va_up s 2 u (12 + kk)).2.2 2 (g + 2 * nI i).toNatClampNeg = rdC h g i := by
        rw [e2i, eix, nI_clamp (by omega), hob, c3 _ (by omega)]
        rfl
      have a1 : (va_up s 2 u (12 + kk)).2.2 2 (g + 2 * nI i + 1).toNatClampNeg = rdE h g i := by
        rw [e2i, eix, nI_1, nI_clamp (by omega), hob, c3 _ (by omega)]
        rfl
      have hHb : HR (va_up s 2 u 2) nb nr q f w := by rw [va_up_self]; exact hH
      have hrf := ev_refusalOf (l := l) (ad := ad) (D := D) (ia := ia) (d := d + 1) (s := va_up s 2 u) (o := 2) rfl hHb hp.1 (rdC h g i) (rdE h g i)
      have v0 : vp_in (g + 2 * nI i) 40 := by rw [e2i, eix]; exact vp_in_nI (by omega) (by omega)
      have v1 : vp_in (g + 2 * nI i + 1) 40 := by rw [e2i, eix, nI_1]; exact vp_in_nI (by omega) (by omega)
      by_cases cr : rfs nb nr q (rdC h g i) (rdE h g i) = 0
      · obtain ⟨x1, x2, x3, x4⟩ := rfs_0 cr
        obtain ⟨r, hr, er⟩ := inN_nI x1
        obtain ⟨b, hb, eb⟩ := inN_nI x2
        have h8 := hp.1.1.1
        have h4 := hp.1.1.2
        have hpn : PB nb nr (fet q (bk (rdC h g i)) (bk (rdE h g i))) := by
          have := fcP_B (x := rdC h g i) (y := rdE h g i) hp
          unfold fcP at this
          rw [if_pos cr] at this
          exact this
        obtain ⟨u1, e1, hH1⟩ := ev_bring (l := l) (ad := ad) (D := D) (ia := ia) (d := d + 1) (s := va_up s 2 u) (o := 2) (r := r) (b := b) rfl hHb hp.1 hr hb
        rw [up_up] at e1
        have ef : fet q r b = fet q (bk (rdC h g i)) (bk (rdE h g i)) := by rw [er, eb, bk_nI (by omega), bk_nI (by omega)]
        rw [ef] at hH1
        obtain ⟨S2, hS2, hz⟩ := ih (i + 1) _ _ _ u1 (by omega) hH1 hpn
        have eo : rdF nb nr h n x g (k + 1) i q = rdF nb nr h n x g k (i + 1) (fet q (bk (rdC h g i)) (bk (rdE h g i))) := by
          show (if _ then (if _ then _ else _) else _) = _
          rw [if_pos c, if_pos cr]
        rw [eo]
        refine ⟨S2, hS2, fun C hC => bX8_read_52 zz hC ⟨fun h => absurd h hnl, fun _ => ⟨_, _, hpf, fun _ => ⟨v0, v1, ?_⟩, fun h => absurd c h⟩⟩⟩
        rw [a0, a1]
        refine ⟨_, _, hrf, fun _ => ⟨mns q r b, va_up s 2 u1, ?_, ?_⟩, fun h => absurd cr h⟩
        · rw [er, eb]
          exact e1
        · rw [c, nI_1]
          exact hz C hC
      · have eo : rdF nb nr h n x g (k + 1) i q = (none, i) := by
          show (if _ then (if _ then _ else _) else _) = _
          rw [if_pos c, if_neg cr]
        rw [eo]
        refine ⟨va_up s 2 u, ⟨u, rfl⟩, fun C hC => bX8_read_52 zz hC ⟨fun h => absurd h hnl, fun _ => ⟨_, _, hpf, fun _ => ⟨v0, v1, ?_⟩, fun h => absurd c h⟩⟩⟩
        rw [a0, a1]
        exact ⟨_, _, hrf, fun h => absurd h cr, fun _ => ⟨rfl, rfl⟩⟩
    · have eo : rdF nb nr h n x g (k + 1) i q = (some (q, rsP h n x g i), i) := by
        show (if _ then _ else _) = _
        rw [if_neg c]
      rw [eo]
      obtain ⟨v1, hv1, e1, es⟩ := fin q f w u (rsP h n x g i) hp hH
      refine ⟨va_up (va_up (va_up s 2 u) 1 v1) 0 (setI (s 0) 7 (rsP h n x g i)), ⟨u, v1, hv1, rfl⟩, fun C hC => bX8_read_52 zz hC ⟨fun h => absurd h hnl, fun _ => ⟨_, _, hpf, fun h => absurd h c, fun _ => ⟨_, e1, fun s1 e2 => ⟨rfl, ?_⟩⟩⟩⟩⟩
      rw [e2, es]
/-- one cell's fault, of the reference -/
theorem mv_rd77 {C : ZC} {X : Option Value} {Y : ZS} {kk n i c : Nat} {h : Int32 × Int32 × (Nat → Int32)} {x g x4 x6 : Int32} {st : ZS} (hkk : kk < 4) (hi : i < 20) (hc : c < 2) (hn : n ≤ 40) (m1 : (st 20).2.2 29 kk = h.1) (m2 : (st 20).2.2 30 kk = nI n) (hC : Zok ad D ia C (d + 1) cX9_read 11 RX9 (some .int)) (hz : Z l ad D ia C X Y 77 [(0, .ref (ad 20 0)), (1, .int (nI kk)), (2, .int x), (3, .int g), (4, .int x4), (5, .int (rsC h n x (g.toInt + 2 * i + c))), (6, .int x6), (7, .int (nI i)), (8, .int (nI (c + 1)))] [] st) : Z l ad D ia C X Y 77 [(0, .ref (ad 20 0)), (1, .int (nI kk)), (2, .int x), (3, .int g), (4, .int x4), (5, .int 0), (6, .int x6), (7, .int (nI i)), (8, .int (nI c))] [] st := by
  have e2i : 2 * nI i = nI (2 * i) := pk_mul 2 i
  have hl := l_ad g (k := 2 * i) (c := c) (by omega) (by omega)
  have ec0 : g.toInt + ((2 * i : Nat) : Int) + c = g.toInt + 2 * i + c := by omega
  rw [ec0] at hl
  refine bX9_read_77 hC ⟨fun q => absurd q (nI_ge (a := c) (b := 2) (by omega) (by omega)), fun _ => ⟨fun q => absurd rfl q, fun _ => ⟨vp_in_nI hkk (by omega), ?_⟩⟩⟩
  rw [nI_clamp (by omega), m1, m2, e2i, nI_1]
  unfold rsC at hz
  refine ⟨fun q1 => ⟨vp_in_nI hkk (by omega), fun q2 => ?_, fun q2 => ?_⟩, fun q1 => ?_⟩
  · rw [if_neg q1, if_pos q2] at hz
    rw [lg_cmp_lt, lg_cmp_lt]
    refine ⟨fun q3 => ?_, fun q3 => ⟨vp_in_nI hkk (by omega), fun q4 => ?_, fun q4 => ?_⟩⟩
    · rw [Int64.lt_iff_toInt_lt, hl] at q3
      have q3 : g.toInt + 2 * i + c < 0 := q3
      rw [if_neg (by omega)] at hz
      exact hz
    · rw [Int64.lt_iff_toInt_lt, hl] at q3
      rw [Int64.lt_iff_toInt_lt, hl, i64_toInt, nI_toInt (by omega)] at q4
      have q3 : ¬ g.toInt + 2 * i + c < 0 := q3
      rw [if_pos (by omega)] at hz
      exact hz
    · rw [Int64.lt_iff_toInt_lt, hl, i64_toInt, nI_toInt (by omega)] at q4
      rw [if_neg (by omega)] at hz
      exact hz
  · rw [if_neg q1, if_neg q2] at hz
    exact hz
  · rw [if_pos q1] at hz
    exact hz
theorem mv_rdB : ∀ (k j : Nat) (v : OV), j + k = 62 → (∀ i, i < j → v.2.2 33 i = v.2.2 0 i) → ∃ v2, (v2.1 = v.1 ∧ ∀ k, k ≠ 33 → v2.2.2 k = v.2.2 k) ∧ (∀ i, i < 62 → v2.2.2 33 i = v.2.2 0 i) ∧ ∀ (C : ZC) (X : Option Value) (Y : ZS) (x1 x2 x3 x4 : Int32), Zok ad D ia C (d + 1) cX9_read 11 RX9 (some .int) → Z l ad D ia C X Y 62 [(0, .ref (ad 20 0)), (1, .int x1), (2, .int x2), (3, .int x3), (4, .int x4), (5, .int 0), (6, .int 0), (7, .int 0)] [] (va_up s 20 v2) → Z l ad D ia C X Y 26 [(0, .ref (ad 20 0)), (1, .int x1), (2, .int x2), (3, .int x3), (4, .int x4), (5, .int (nI j))] [] (va_up s 20 v) := by
  intro k
  induction k with
  | zero =>
    intro j v hj hv
    exact ⟨v, ⟨rfl, fun _ _ => rfl⟩, fun i hi => hv i (by omega), fun C X Y x1 x2 x3 x4 hC hz => bX9_read_26 hC ⟨fun _ => hz, fun h => absurd (nI_le (a := 62) (b := j) (by omega) (by omega)) h⟩⟩
  | succ k ih =>
    intro j v hj hv
    obtain ⟨v2, h1, h2, hz⟩ := ih (j + 1) (setA v 33 (upd (v.2.2 33) j (v.2.2 0 j))) (by omega) (fun i hi => by
      rw [setA_s, setA_n _ _ (by decide)]
      by_cases e : i = j
      · subst e
        rw [upd_self]
      · rw [upd_ne _ _ e]
        exact hv i (by omega))
    refine ⟨v2, ⟨h1.1, fun q hq => (h1.2 q hq).trans (setA_n v _ hq)⟩, fun i hi => by rw [h2 i hi, setA_n _ _ (by decide)], fun C X Y x1 x2 x3 x4 hC hz0 => bX9_read_26 hC ⟨fun h => absurd h (nI_ge (a := j) (b := 62) (by omega) (by omega)), fun _ => ⟨vp_in_nI (by omega) (by omega), vp_in_nI (by omega) (by omega), fun s1 e1 => ?_⟩⟩⟩
    rw [va_up_self, nI_clamp (by omega), stA_up] at e1
    subst e1
    rw [nI_1]
    exact hz C X Y x1 x2 x3 x4 hC hz0
theorem mv_rdR {i : Nat} : ∀ (k j : Nat) (v : OV), j + k = 62 → (∀ i, i < j → v.2.2 0 i = v.2.2 33 i) → ∃ a2, (∀ i, i < 62 → a2 i = v.2.2 33 i) ∧ (∀ i, 62 ≤ i → a2 i = v.2.2 0 i) ∧ ∀ (C : ZC), Zok ad D ia C (d + 1) cX9_read 11 RX9 (some .int) → Z l ad D ia C (some (.int (-20 - nI i))) (va_up s 20 (setA v 0 a2)) 208 [(0, .ref (ad 20 0)), (7, .int (nI i)), (9, .int (nI j))] [] (va_up s 20 v) := by
  intro k
  induction k with
  | zero =>
    intro j v hj hv
    refine ⟨v.2.2 0, fun i hi => hv i (by omega), fun _ _ => rfl, fun C hC => bX9_read_208 hC ⟨fun _ => ⟨rfl, ?_⟩, fun h => absurd (nI_le (a := 62) (b := j) (by omega) (by omega)) h⟩⟩
    congr 1
    unfold setA
    rw [up_id]
  | succ k ih =>
    intro j v hj hv
    obtain ⟨a2, h1, h2, hz⟩ := ih (j + 1) (setA v 0 (upd (v.2.2 0) j (v.2.2 33 j))) (by omega) (fun i hi => by
      rw [setA_s, setA_n _ _ (by decide)]
      by_cases e : i = j
      · subst e
        rw [upd_self]
      · rw [upd_ne _ _ e]
        exact hv i (by omega))
    refine ⟨a2, fun i hi => by rw [h1 i hi, setA_n _ _ (by decide)], fun i hi => by rw [h2 i hi, setA_s, upd_ne _ _ (by omega)], fun C hC => bX9_read_208 hC ⟨fun h => absurd h (nI_ge (a := j) (b := 62) (by omega) (by omega)), fun _ => ⟨vp_in_nI (by omega) (by omega), vp_in_nI (by omega) (by omega), fun s1 e1 => ?_⟩⟩⟩
    rw [va_up_self, nI_clamp (by omega), stA_up] at e1
    subst e1
    have hz := hz C hC
    have e : setA (setA v 0 (upd (v.2.2 0) j (v.2.2 33 j))) 0 a2 = setA v 0 a2 := by
      unfold setA
      simp only [up_up]
    rw [e] at hz
    rw [nI_1]
    exact hz
theorem fcX_neg {nb nr : Nat} {q : PS} {x y : Int32} (h : PB nb nr q) : (0 ≤ fcX nb nr q x y) ↔ rfs nb nr q x y = 0 := by
  unfold fcX
  by_cases c : rfs nb nr q x y = 0
  · rw [if_pos c]
    refine ⟨fun _ => c, fun _ => ?_⟩
    obtain ⟨x1, x2, -, -⟩ := rfs_0 c
    obtain ⟨r, hr, rfl⟩ := inN_nI x1
    obtain ⟨b, hb, rfl⟩ := inN_nI x2
    have h8 := h.1.1.1
    have h4 := h.1.1.2
    rw [bk_nI (by omega), bk_nI (by omega)]
    obtain ⟨t, ht, e⟩ := mns_rng (h.2.1 b hb) (h.1.2.2.2 b hb) (h.2.2.1 r hr).1 h.2.2.2.1
    rw [e]
    exact nI_le (a := 0) (Nat.zero_le _) (by omega)
  · rw [if_neg c]
    refine ⟨fun h0 => ?_, fun h0 => absurd h0 c⟩
    unfold rfs at h0 c
    by_cases c1 : (inN x nr && inN y nb) = true
    · rw [if_pos c1] at h0 c
      by_cases c2 : hadq q (bk x) (bk y) = 0
      · rw [if_pos c2] at h0 c
        by_cases c3 : q.2 1 + mns q (bk x) (bk y) ≤ (9999 : Int32)
        · rw [if_pos c3] at c
          exact absurd rfl c
        · rw [if_neg c3] at h0
          exact absurd h0 (by decide)
      · rw [if_neg c2] at h0
        exact absurd h0 (by decide)
    · rw [if_neg c1] at h0
      exact absurd h0 (by decide)
def rdM (v : OV) (nb nr : Nat) (p : PS) (tl : Nat) (tb : Nat → Int32) (flt : Int32) (sn : Nat) (sa : Nat → Nat → Int32) (K : KT) (H : HT) (tn : Int32) (t : Option (PS × Int32)) : Prop := match t with
  | some q => MR v nb nr q.1 tl tb flt sn sa K H q.2
  | none => MR v nb nr p tl tb flt sn sa K H tn
theorem mv_rdL {s0 : ZS} {nb nr : Nat} {p : PS} {tl : Nat} {tb : Nat → Int32} {flt : Int32} {sn : Nat} {sa : Nat → Nat → Int32} {K : KT} {H : HT} {tn : Int32} (hM : MR (s0 20) nb nr p tl tb flt sn sa K H tn) (h6 : sn ≤ 6) {kk N n : Nat} {x g : Int32} (hkk : kk < 4) (hN : N ≤ 20) (hn : n ≤ 40) (hgn : (H kk).2.1 = nI n) : ∀ (k i : Nat) (q : PS) (u : OV), i + k = N → PB nb nr q → MR u nb nr q tl tb flt sn sa K H tn → (∀ j, j < 62 → u.2.2 33 j = (s0 20).2.2 0 j) → ∃ u2, rdM u2 nb nr p tl tb flt sn sa K H tn (rdF nb nr (H kk) n x g k i q).1 ∧ ∀ C : ZC, Zok ad D ia C (d + 5) cX9_read 11 RX9 (some .int) → Z l ad D ia C (some (.int (rdX (rdF nb nr (H kk) n x g k i q)))) (va_up s 20 u2) 62 [(0, .ref (ad 20 0)), (1, .int (nI kk)), (2, .int x), (3, .int g), (4, .int (nI N)), (5, .int 0), (6, .int (nI i)), (7, .int (nI i))] [] (va_up s 20 u) := by
  intro k
  induction k with
  | zero =>
    intro i q u hi hp hMu h33
    refine ⟨setI u 32 0, MR_tn hMu 0, fun C hC => bX9_read_62 hC ⟨fun _ => fun s1 e1 => ⟨rfl, ?_⟩, fun h => absurd (nI_le (by omega) (by omega)) h⟩⟩
    rw [e1, stI_up]
  | succ k ih =>
    intro i q u hi hp hMu h33
    have hnl : ¬ nI N ≤ nI i := nI_ge (by omega) (by omega)
    obtain ⟨m1, m2, m3⟩ := hMu.2.2.2.2.2 kk hkk
    rw [hgn] at m2
    have m1b : (va_up s 20 u 20).2.2 29 kk = (H kk).1 := by rw [va_up_self]; exact m1
    have m2b : (va_up s 20 u 20).2.2 30 kk = nI n := by rw [va_up_self]; exact m2
    -- both cells, then what comes of them
    have two : ∀ (C : ZC) (X : Option Value) (Y : ZS), Zok ad D ia C (d + 5) cX9_read 11 RX9 (some .int) → Z l ad D ia C X Y 164 [(0, .ref (ad 20 0)), (1, .int (nI kk)), (2, .int x), (3, .int g), (4, .int (nI N)), (5, .int (rsP (H kk) n x g i)), (6, .int (nI i)), (7, .int (nI i))] [] (va_up s 20 u) → Z l ad D ia C X Y 77 [(0, .ref (ad 20 0)), (1, .int (nI kk)), (2, .int x), (3, .int g), (4, .int (nI N)), (5, .int 0), (6, .int (nI i)), (7, .int (nI i)), (8, .int (nI 0))] [] (va_up s 20 u) := by
      intro C X Y hC hz
      refine mv_rd77 (c := 0) hkk (by omega) (by omega) hn m1b m2b hC ?_
      have e0 : g.toInt + 2 * (i : Int) + ((0 : Nat) : Int) = g.toInt + 2 * i := by omega
      rw [e0]
      unfold rsP at hz
      by_cases c : rsC (H kk) n x (g.toInt + 2 * i) = 0
      · rw [if_pos c] at hz
        rw [c]
        refine mv_rd77 (c := 1) hkk (by omega) (by omega) hn m1b m2b hC ?_
        have e1 : g.toInt + 2 * (i : Int) + ((1 : Nat) : Int) = g.toInt + 2 * i + 1 := by omega
        rw [e1]
        exact bX9_read_77 hC ⟨fun _ => hz, fun h => absurd (by decide) h⟩
      · rw [if_neg c] at hz
        exact bX9_read_77 hC ⟨fun h => absurd h (by decide), fun _ => ⟨fun _ => hz, fun h => absurd h c⟩⟩
    by_cases c : rsP (H kk) n x g i = 0
    · have hr0 := rsP_0 c
      have e2i : 2 * nI i = nI (2 * i) := pk_mul 2 i
      have eix : g + nI (2 * i) = nI (g.toInt + 2 * i).toNat := by
        have := at_ad g (k := 2 * i) (n := n) (by omega) hn (by omega)
        rw [show g.toInt + ((2 * i : Nat) : Int) = g.toInt + 2 * i by omega] at this
        exact this
      have hlt : (g.toInt + 2 * i).toNat + 1 < n := by omega
      have e40 : (40 * nI kk + g) + 2 * nI i = nI (40 * kk + (g.toInt + 2 * i).toNat) := by
        have h1 : (40 * nI kk + g) + 2 * nI i = 40 * nI kk + (g + 2 * nI i) := by grind
        rw [h1, e2i, eix]
        show nI 40 * nI kk + _ = _
        rw [nI_mul, nI_add]
      have a0 : (va_up s 20 u 20).2.2 31 ((40 * nI kk + g) + 2 * nI i).toNatClampNeg = rdC (H kk) g i := by
        rw [e40, nI_clamp (by omega), va_up_self, m3 _ (by omega)]
        rfl
      have a1 : (va_up s 20 u 20).2.2 31 ((40 * nI kk + g) + 2 * nI i + 1).toNatClampNeg = rdE (H kk) g i := by
        rw [e40, nI_1, nI_clamp (by omega), va_up_self, Nat.add_assoc, m3 _ (by omega)]
        rfl
      have v0 : vp_in ((40 * nI kk + g) + 2 * nI i) 160 := by rw [e40]; exact vp_in_nI (by omega) (by omega)
      have v1 : vp_in ((40 * nI kk + g) + 2 * nI i + 1) 160 := by rw [e40, nI_1]; exact vp_in_nI (by omega) (by omega)
      have hMb : MR (va_up s 20 u 20) nb nr q tl tb flt sn sa K H tn := by rw [va_up_self]; exact hMu
      obtain ⟨w1, e1, hM1, hk1⟩ := mv_fetch (l := l) (ad := ad) (D := D) (ia := ia) (d := d) (s := va_up s 20 u) hMb hp.1 h6 (rdC (H kk) g i) (rdE (H kk) g i)
      rw [up_up] at e1
      rw [va_up_self] at hk1
      have hng := fcX_neg (x := rdC (H kk) g i) (y := rdE (H kk) g i) hp
      by_cases cr : rfs nb nr q (rdC (H kk) g i) (rdE (H kk) g i) = 0
      · have efp : fcP nb nr q (rdC (H kk) g i) (rdE (H kk) g i) = fet q (bk (rdC (H kk) g i)) (bk (rdE (H kk) g i)) := if_pos cr
        have hpn := fcP_B (x := rdC (H kk) g i) (y := rdE (H kk) g i) hp
        rw [efp] at hM1 hpn
        have eo : rdF nb nr (H kk) n x g (k + 1) i q = rdF nb nr (H kk) n x g k (i + 1) (fet q (bk (rdC (H kk) g i)) (bk (rdE (H kk) g i))) := by
          show (if _ then (if _ then _ else _) else _) = _
          rw [if_pos c, if_pos cr]
        rw [eo]
        obtain ⟨u2, hu2, hz⟩ := ih (i + 1) _ w1 (by omega) hpn hM1 (fun j hj => by rw [hk1 33 (by decide) (by decide)]; exact h33 j hj)
        refine ⟨u2, hu2, fun C hC => bX9_read_62 hC ⟨fun h => absurd h hnl, fun _ => ⟨fun h => absurd rfl h, fun _ => two C _ _ hC (bX9_read_164 hC ⟨fun h => absurd c h, fun _ => ⟨v0, v1, ?_⟩⟩)⟩⟩⟩
        rw [a0, a1, c]
        refine ⟨_, _, e1, fun _ => ?_, fun h => absurd (hng.mpr cr) h⟩
        rw [nI_1]
        exact hz C hC
      · have efp : fcP nb nr q (rdC (H kk) g i) (rdE (H kk) g i) = q := if_neg cr
        rw [efp] at hM1
        have eo : rdF nb nr (H kk) n x g (k + 1) i q = (none, i) := by
          show (if _ then (if _ then _ else _) else _) = _
          rw [if_pos c, if_neg cr]
        rw [eo]
        obtain ⟨a2, h1, h2, hz⟩ := mv_rdR (l := l) (ad := ad) (D := D) (ia := ia) (d := d + 4) (s := s) (i := i) 62 0 w1 (by omega) (fun j hj => absurd hj (by omega))
        have hS0 := sat0.mp hM.2.2.2.1
        have ea : ∀ j, j < 62 → a2 j = (s0 20).2.2 0 j := fun j hj => by
          rw [h1 j hj, hk1 33 (by decide) (by decide)]
          exact h33 j hj
        have hp1 := hp.1.1
        have hSa : SAT a2 0 nb nr p sn sa := by
          refine sat0.mpr ⟨⟨fun c hc b hb => ?_, fun c hc b hb => ?_, fun j hj => ?_⟩, ?_, fun i j hi hj => ?_⟩
          · rw [ea _ (by omega)]
            exact hS0.1.1 c hc b hb
          · rw [ea _ (by omega)]
            exact hS0.1.2.1 c hc b hb
          · rw [ea _ (by omega)]
            exact hS0.1.2.2 j hj
          · rw [ea _ (by omega)]
            exact hS0.2.1
          · rw [ea _ (by omega)]
            exact hS0.2.2 i j hi hj
        refine ⟨setA w1 0 a2, MR_a hM1 h2 hSa, fun C hC => bX9_read_62 hC ⟨fun h => absurd h hnl, fun _ => ⟨fun h => absurd rfl h, fun _ => two C _ _ hC (bX9_read_164 hC ⟨fun h => absurd c h, fun _ => ⟨v0, v1, ?_⟩⟩)⟩⟩⟩
        rw [a0, a1]
        exact ⟨_, _, e1, fun h => absurd (hng.mp h) cr, fun _ => hz C hC⟩
    · have eo : rdF nb nr (H kk) n x g (k + 1) i q = (some (q, rsP (H kk) n x g i), i) := by
        show (if _ then _ else _) = _
        rw [if_neg c]
      rw [eo]
      refine ⟨setI u 32 (rsP (H kk) n x g i), MR_tn hMu _, fun C hC => bX9_read_62 hC ⟨fun h => absurd h hnl, fun _ => ⟨fun h => absurd rfl h, fun _ => two C _ _ hC (bX9_read_164 hC ⟨fun _ => bX9_read_62 hC ⟨fun _ => fun s1 e1 => ⟨rfl, ?_⟩, fun _ => ⟨fun _ => fun s1 e1 => ⟨rfl, ?_⟩, fun h => absurd h c⟩⟩, fun h => absurd h c⟩)⟩⟩⟩
      · rw [e1, stI_up]
      · rw [e1, stI_up]
theorem rdF_B {nb nr : Nat} {h : Int32 × Int32 × (Nat → Int32)} {n : Nat} {x g : Int32} : ∀ (k i : Nat) (q : PS), PB nb nr q → ∀ t, (rdF nb nr h n x g k i q).1 = some t → PB nb nr t.1
  | 0, i, q, hq, t, e => by
    have e : some (q, (0 : Int32)) = some t := e
    injection e with e
    subst e
    exact hq
  | k + 1, i, q, hq, t, e => by
    unfold rdF at e
    by_cases c : rsP h n x g i = 0
    · rw [if_pos c] at e
      by_cases cr : rfs nb nr q (rdC h g i) (rdE h g i) = 0
      · rw [if_pos cr] at e
        have hpn := fcP_B (x := rdC h g i) (y := rdE h g i) hq
        unfold fcP at hpn
        rw [if_pos cr] at hpn
        exact rdF_B k (i + 1) _ hpn t e
      · rw [if_neg cr] at e
        injection e
    · rw [if_neg c] at e
      injection e with e
      subst e
      exact hq
theorem op_read (hR : RR s) (x y g z : Int32) : Op l ad D ia s mX8_read mX9_read [.int x, .int y, .int g, .int z] := by
  obtain ⟨nb, nr, p, tl, tb, flt, sn, sa, K, H, tn, hG, hC, hM⟩ := hR
  have hbad : RR s := ⟨nb, nr, p, tl, tb, flt, sn, sa, K, H, tn, hG, hC, hM⟩
  have hp := hG.1.1
  have o1 := ev_out0 (l := l) (ad := ad) (D := D) (ia := ia) (d := 8) (s := s) (n := 3) x (y := 3) rfl (by decide)
  have o2 := ev_out0 (l := l) (ad := ad) (D := D) (ia := ia) (d := 8) (s := s) (n := 2) y (y := 2) rfl (by decide)
  have o3 := ev_out0 (l := l) (ad := ad) (D := D) (ia := ia) (d := 8) (s := s) (n := 20) z (y := 20) rfl (by decide)
  have i1 := fun s2 => mv_isSheet (l := l) (ad := ad) (D := D) (ia := ia) (d := 7) (s := s2) x y
  have i3 := fun s2 => mv_in0 (l := l) (ad := ad) (D := D) (ia := ia) (d := 8) (s := s2) z (n := 21) (z := 0) (c := 20) (by decide) (by decide)
  by_cases cx : inN x 4 = true
  · rw [cx] at o1 i1
    by_cases cy : inN y 3 = true
    · rw [cy] at o2 i1
      by_cases cz : inN z 21 = true
      · rw [cz] at o3 i3
        obtain ⟨kk, hkk, rfl⟩ := inN_nI cx
        obtain ⟨N, hN, rfl⟩ := inN_nI cz
        obtain ⟨gl, n, -, hn, gn⟩ := hG.2.2.2.2 kk hkk
        obtain ⟨c1, c2, c3⟩ := hC.2.2.2.2.2 kk hkk
        rw [gn] at c2
        obtain ⟨u0, e0, hT⟩ := ev_beginTrial (l := l) (ad := ad) (D := D) (ia := ia) (d := 6) (s := s) hC.1 hp.1.1 hp.1.2
        obtain ⟨S2, hS2, hz2⟩ := ev_rdL (l := l) (ad := ad) (D := D) (ia := ia) (d := 5) (s := s) (N := N) (x := y) (g := g) hkk (by omega) hn c1 c2 c3 N 0 p 0 0 u0 (by omega) hT hG.1
        have h20 : S2 20 = s 20 := by
          unfold rdS at hS2
          split at hS2
          · obtain ⟨u2, v1, -, e⟩ := hS2
            rw [e, va_up_ne _ _ (by decide), va_up_ne _ _ (by decide), va_up_ne _ _ (by decide)]
          · obtain ⟨u2, e⟩ := hS2
            rw [e, va_up_ne _ _ (by decide)]
        obtain ⟨w1, hw1, hw33, hzB⟩ := mv_rdB (l := l) (ad := ad) (D := D) (ia := ia) (d := 8) (s := S2) 62 0 (S2 20) (by omega) (fun i hi => absurd hi (by omega))
        rw [up_id] at hzB
        rw [h20] at hw1 hw33
        have hkw : KM (s 20) w1 := ⟨fun k _ => by rw [hw1.1], fun k hk => hw1.2 k (by omega)⟩
        obtain ⟨u3, hu3, hz3⟩ := mv_rdL (l := l) (ad := ad) (D := D) (ia := ia) (d := 4) (s := S2) (N := N) (x := y) (g := g) hM hG.2.2.1.1 hkk (by omega) hn gn N 0 p w1 (by omega) hG.1 (MR_km hkw hM) hw33
        have hRR : RR (va_up S2 20 u3) := by
          cases e : (rdF nb nr (H kk) n y g N 0 p).1 with
          | some q =>
            rw [e] at hS2 hu3
            obtain ⟨u2, v1, hv1, rfl⟩ := hS2
            have hPq := rdF_B N 0 p hG.1 q e
            refine ⟨nb, nr, q.1, tl, tb, flt, sn, sa, K, H, q.2, ⟨hPq, hG.2⟩, CR_20 ?_, by rw [va_up_self]; exact hu3⟩
            have hc2 : CR (va_up s 2 u2) nb nr p tl tb flt sn sa K H tn := CR_kc (KC.up (o := 2) (v := u2) (by decide)) hC
            have hc3 := CR_tn (CR_h hc2 hv1) q.2
            rw [va_up_ne _ v1 (show (0 : Nat) ≠ 1 by decide), va_up_ne _ u2 (show (0 : Nat) ≠ 2 by decide)] at hc3
            exact hc3
          | none =>
            rw [e] at hS2 hu3
            obtain ⟨u2, rfl⟩ := hS2
            exact ⟨nb, nr, p, tl, tb, flt, sn, sa, K, H, tn, hG, CR_20 (CR_kc (KC.up (o := 2) (v := u2) (by decide)) hC), by rw [va_up_self]; exact hu3⟩
        refine ⟨.int (rdX (rdF nb nr (H kk) n y g N 0 p)), _, _, eX8_read (fun C hZ => ⟨_, _, o1, fun h => absurd rfl h, fun _ => ⟨_, _, o2, fun h => absurd rfl h, fun _ => ⟨_, _, o3, fun _ => ?_, fun h => absurd rfl h⟩⟩⟩), eX9_read (fun C hZ => ⟨_, _, i1 _, fun h => absurd h (by decide), fun _ => ⟨_, _, i3 _, fun _ => hzB C _ _ _ _ _ _ hZ (hz3 C hZ), fun h => absurd h (by decide)⟩⟩), hRR⟩
        rw [nI_clamp (by omega)]
        exact ⟨vp_in_nI hkk (by omega), zc12 hkk, _, e0, hz2 C hZ⟩
      · rw [bool_f cz] at o3 i3
        exact ⟨.int (-1), _, _, eX8_read (fun C hZ => ⟨_, _, o1, fun h => absurd rfl h, fun _ => ⟨_, _, o2, fun h => absurd rfl h, fun _ => ⟨_, _, o3, fun h => absurd h (by decide), fun _ => ⟨rfl, rfl⟩⟩⟩⟩), eX9_read (fun C hZ => ⟨_, _, i1 _, fun h => absurd h (by decide), fun _ => ⟨_, _, i3 _, fun h => absurd rfl h, fun _ => ⟨rfl, rfl⟩⟩⟩), hbad⟩
    · rw [bool_f cy] at o2 i1
      exact ⟨.int (-1), _, _, eX8_read (fun C hZ => ⟨_, _, o1, fun h => absurd rfl h, fun _ => ⟨_, _, o2, fun _ => ⟨rfl, rfl⟩, fun h => absurd h (by decide)⟩⟩), eX9_read (fun C hZ => ⟨_, _, i1 _, fun _ => ⟨rfl, rfl⟩, fun h => absurd rfl h⟩), hbad⟩
  · rw [bool_f cx] at o1 i1
    exact ⟨.int (-1), _, _, eX8_read (fun C hZ => ⟨_, _, o1, fun _ => ⟨rfl, rfl⟩, fun h => absurd h (by decide)⟩), eX9_read (fun C hZ => ⟨_, _, i1 _, fun _ => ⟨rfl, rfl⟩, fun h => absurd rfl h⟩), hbad⟩
end RDS
