theorem nI_64 {n : Nat} (h : n < 2 ^ 31) : (nI n).toInt64 = lN n := by
  apply Int64.toInt_inj.mp
  rw [i64_toInt, nI_toInt h, pk_lT (by omega)]
theorem lN_n0 {k : Nat} (h : 0 < k) (h2 : k < 2 ^ 63) : ¬ lN k = 0 := fun e => by
  have := (pk_lEQ (a := k) (b := 0) h2 (by omega)).mp e
  omega
theorem one_shl : ∀ n, n ≤ 8 → (1 : Int32) <<< (nI n &&& 31) = nI (2 ^ n) := by decide +kernel
theorem lc0 (k : Nat) (h : k < 2 ^ 63) : lg_cmp (lN k) 0 = 0 ↔ k = 0 := by
  rw [lg_cmp_eq]
  exact pk_lEQ (b := 0) h (by omega)
/-- the answer in lowest terms -/
def frX (nu de : Nat) (y : Int32) : Int64 := if y = 0 then lN (nu / Nat.gcd nu de) else lN (de / Nat.gcd nu de)
section LCK
variable {l : Launch} {ad : ZA} {D : va_G} {ia : Nat → ClassId} {d nb nr r b o o1 sn : Nat} {s : ZS} {p : PS} {f m w : Int32}
theorem mv_common {C : ZC} (hC : Zok ad D ia C d cX9_common 10 RX9 (some .long)) : ∀ (n x y : Nat), y ≤ n → x < 2 ^ 62 → y < 2 ^ 62 → Z l ad D ia C (some (.long (lN (Nat.gcd y x)))) s 6 [(4, .long (lN x)), (6, .long (lN y))] [] s := by
  intro n
  induction n with
  | zero =>
    intro x y hy hx hy2
    have e : y = 0 := by omega
    subst e
    refine bX9_common_6 hC ⟨fun _ => ⟨by rw [Nat.gcd_zero_left], rfl⟩, fun h => absurd ((lc0 0 (by omega)).mpr rfl) h⟩
  | succ n ih =>
    intro x y hy hx hy2
    by_cases e : y = 0
    · subst e
      exact bX9_common_6 hC ⟨fun _ => ⟨by rw [Nat.gcd_zero_left], rfl⟩, fun h => absurd ((lc0 0 (by omega)).mpr rfl) h⟩
    · have hm : x % y < y := Nat.mod_lt _ (by omega)
      refine bX9_common_6 hC ⟨fun h => absurd ((lc0 y (by omega)).mp h) e, fun _ => ⟨lN_n0 (by omega) (by omega), ?_⟩⟩
      have er : rm64 (lN x) (lN y) = lN (x % y) := pk_lRem (by omega) (by omega) (by omega)
      rw [er, Nat.gcd_rec y x]
      exact ih y (x % y) (by omega) (by omega) (by omega)
theorem mv_told {nu de : Nat} (h0 : 0 < de) (hn : nu < 2 ^ 62) (hd : de < 2 ^ 62) (y : Int32) : Ev l ad D ia (d + 1) mX9_told [.long (lN nu), .long (lN de), .int y] s (some (.long (frX nu de y))) s := by
  have hg : 0 < Nat.gcd nu de := Nat.gcd_pos_of_pos_right _ h0
  have hg2 : Nat.gcd nu de ≤ de := Nat.gcd_le_right _ h0
  have hc : Ev l ad D ia d mX9_common [.long (lN de), .long (lN nu)] s (some (.long (lN (Nat.gcd nu de)))) s := eX9_common (fun C hC => mv_common hC nu de nu (Nat.le_refl _) hd hn)
  refine eX9_told ⟨_, _, hc, fun h => ⟨lN_n0 hg (by omega), ?_, rfl⟩, fun h => ⟨lN_n0 hg (by omega), ?_, rfl⟩⟩
  · unfold frX
    rw [if_neg h, pk_lDiv (by omega) hg (by omega)]
  · unfold frX
    rw [if_pos h, pk_lDiv (by omega) hg (by omega)]
/-- what is told once the common measure stands -/
theorem pf_out {nu de g x : Nat} {y : Int32} (hg : 0 < g) (hgd : g = Nat.gcd nu de) (hx : x = g) (hn : nu < 2 ^ 62) (hd : de < 2 ^ 62) (hg2 : g < 2 ^ 62) {X : Option Value} (hX : X = some (.long (frX nu de y))) : ((¬ lg_cmp (lN x) 0 = 0 → ((¬ y = 0 → (¬ lN x = 0 ∧ (X = some (.long (lN de / lN x)) ∧ s = s))) ∧ (y = 0 → (¬ lN x = 0 ∧ (X = some (.long (lN nu / lN x)) ∧ s = s))))) ∧ (lg_cmp (lN x) 0 = 0 → (X = some (.long (-1)) ∧ s = s))) := by
  subst hx
  subst hX
  unfold frX
  rw [← hgd]
  refine ⟨fun _ => ⟨fun h => ⟨lN_n0 hg (by omega), by rw [if_neg h, pk_lDiv (by omega) hg (by omega)], rfl⟩, fun h => ⟨lN_n0 hg (by omega), by rw [if_pos h, pk_lDiv (by omega) hg (by omega)], rfl⟩⟩, fun h => ?_⟩
  have := (lc0 x (by omega)).mp h
  omega
theorem ev_pfL {nu de : Nat} {y : Int32} (hn : nu < 2 ^ 62) (hd : de < 2 ^ 62) (h0 : 0 < de) {C : ZC} (hC : Zok ad D ia C d cX8_partOfFraction 12 RX8 (some .long)) : ∀ (j i x z : Nat), (z < x ∨ z = 0) → x < 2 ^ j → x < 2 ^ 62 → i + 2 * j ≤ 90 → Nat.gcd z x = Nat.gcd nu de → Z l ad D ia C (some (.long (frX nu de y))) s 9 [(0, .long (lN nu)), (2, .long (lN de)), (4, .int y), (5, .long (lN x)), (7, .long (lN z)), (9, .int (nI i))] [] s := by
  have hg : 0 < Nat.gcd nu de := Nat.gcd_pos_of_pos_right _ h0
  have hg2 : Nat.gcd nu de ≤ de := Nat.gcd_le_right _ h0
  have stop : ∀ i x, i ≤ 95 → Nat.gcd 0 x = Nat.gcd nu de → Z l ad D ia C (some (.long (frX nu de y))) s 9 [(0, .long (lN nu)), (2, .long (lN de)), (4, .int y), (5, .long (lN x)), (7, .long (lN 0)), (9, .int (nI i))] [] s := by
    intro i x hi hx
    rw [Nat.gcd_zero_left] at hx
    refine bX8_partOfFraction_9 hC ⟨fun h => absurd h (nI_ge (a := i) (b := 100) (by omega) (by omega)), fun _ => ⟨fun _ => ?_, fun h => absurd ((lc0 0 (by omega)).mpr rfl) h⟩⟩
    exact pf_out (s := s) hg rfl hx hn hd (by omega) rfl
  intro j
  induction j with
  | zero =>
    intro i x z hz hx hx2 hi hgc
    have e : z = 0 := by
      have : x < 1 := hx
      omega
    subst e
    exact stop i x (by omega) hgc
  | succ j ih =>
    intro i x z hz hx hx2 hi hgc
    by_cases e : z = 0
    · subst e
      exact stop i x (by omega) hgc
    · have hzx : z < x := by omega
      have hm : x % z < z := Nat.mod_lt _ (by omega)
      have er : rm64 (lN x) (lN z) = lN (x % z) := pk_lRem (by omega) (by omega) (by omega)
      refine bX8_partOfFraction_9 hC ⟨fun h => absurd h (nI_ge (a := i) (b := 100) (by omega) (by omega)), fun _ => ⟨fun h => absurd ((lc0 z (by omega)).mp h) e, fun _ => ⟨lN_n0 (by omega) (by omega), ?_⟩⟩⟩
      rw [er, nI_1]
      have hgc1 : Nat.gcd (x % z) z = Nat.gcd nu de := by rw [← Nat.gcd_rec]; exact hgc
      by_cases e2 : x % z = 0
      · rw [e2] at hgc1 ⊢
        exact stop (i + 1) z (by omega) hgc1
      · have hm2 : z % (x % z) < x % z := Nat.mod_lt _ (by omega)
        have er2 : rm64 (lN z) (lN (x % z)) = lN (z % (x % z)) := pk_lRem (by omega) (by omega) (by omega)
        refine bX8_partOfFraction_9 hC ⟨fun h => absurd h (nI_ge (a := i + 1) (b := 100) (by omega) (by omega)), fun _ => ⟨fun h => absurd ((lc0 _ (by omega)).mp h) e2, fun _ => ⟨lN_n0 (by omega) (by omega), ?_⟩⟩⟩
        rw [er2, nI_1]
        have hhalf : x % z < 2 ^ j := by
          have h1 : x = z * (x / z) + x % z := (Nat.div_add_mod x z).symm
          have h2 : 1 ≤ x / z := Nat.div_pos (by omega) (by omega)
          have h3 : z * 1 ≤ z * (x / z) := Nat.mul_le_mul_left z h2
          have h4 : 2 ^ (j + 1) = 2 * 2 ^ j := by rw [Nat.pow_succ]; omega
          omega
        exact ih (i + 1 + 1) (x % z) (z % (x % z)) (Or.inl hm2) hhalf (by omega) (by omega) (by rw [← Nat.gcd_rec]; exact hgc1)
theorem ev_part {nu de : Nat} (h0 : 0 < de) (hn : nu < 2 ^ 40) (hd : de < 2 ^ 40) (y : Int32) : Ev l ad D ia d mX8_partOfFraction [.long (lN nu), .long (lN de), .int y] s (some (.long (frX nu de y))) s := by
  refine eX8_partOfFraction (fun C hC => ?_)
  have hg : 0 < Nat.gcd nu de := Nat.gcd_pos_of_pos_right _ h0
  by_cases e : nu = 0
  · subst e
    exact ev_pfL (by omega) (by omega) h0 hC 40 0 de 0 (Or.inr rfl) hd (by omega) (by omega) rfl
  · have hm : de % nu < nu := Nat.mod_lt _ (by omega)
    have er : rm64 (lN de) (lN nu) = lN (de % nu) := pk_lRem (by omega) (by omega) (by omega)
    refine bX8_partOfFraction_9 hC ⟨fun h => absurd h (by decide), fun _ => ⟨fun h => absurd ((lc0 nu (by omega)).mp h) e, fun _ => ⟨lN_n0 (by omega) (by omega), ?_⟩⟩⟩
    rw [er]
    exact ev_pfL (by omega) (by omega) h0 hC 40 1 nu (de % nu) (Or.inl hm) hn (by omega) (by omega) (by rw [← Nat.gcd_rec])
/-- the class looks ahead -/
def K24 (s st : ZS) : Prop := ∀ o, o ≠ 2 → o ≠ 4 → o ≠ 18 → st o = s o
def FW (v : OV) (nr : Nat) (p : PS) (n i : Nat) : Prop := v.1 0 = nI n ∧ ∀ j, j < i → v.2.2 1 j = nI (aS nr p j) ∧ v.2.2 2 j = nI (aR nr p j)
theorem FW.put {v : OV} {nr : Nat} {p : PS} {n i : Nat} (h : FW v nr p n i) : FW (setA (setA v 2 (upd (v.2.2 2) i (nI (aR nr p i)))) 1 (upd ((setA v 2 (upd (v.2.2 2) i (nI (aR nr p i)))).2.2 1) i (nI (aS nr p i)))) nr p n (i + 1) := by
  refine ⟨h.1, fun j hj => ?_⟩
  rw [setA_s, setA_n _ _ (show (2 : Nat) ≠ 1 by decide), setA_s, setA_n _ _ (show (1 : Nat) ≠ 2 by decide)]
  by_cases e : j = i
  · subst e
    rw [upd_self, upd_self]
    exact ⟨rfl, rfl⟩
  · rw [upd_ne _ _ e, upd_ne _ _ e]
    exact h.2 j (by omega)
theorem ev_fsL (hp : PB nb nr p) {n : Nat} (hn : n ≤ 8) : ∀ (k i : Nat) (st : ZS), i + k = n → K24 s st → HR (st 2) nb nr (days nr i (p, 0, 0)).1 (days nr i (p, 0, 0)).2.1 (days nr i (p, 0, 0)).2.2 → FW (st 18) nr p n i → ∃ s2, K24 s s2 ∧ FW (s2 18) nr p n n ∧ ∀ C : ZC, Zok ad D ia C (d + 5) cX4_foresee 6 RX4 none → Z l ad D ia C none s2 18 [(0, .ref (ad 18 0)), (2, .ref (ad 2 0)), (4, .int (nI i))] [] st := by
  have h8 := hp.1.1.1
  have h4 := hp.1.1.2
  intro k
  induction k with
  | zero =>
    intro i st hi hk hH hF
    have e : i = n := by omega
    subst e
    refine ⟨st, hk, hF, fun C hC => bX4_foresee_18 (o2 := 2) rfl hC ⟨fun _ => ⟨rfl, rfl⟩, fun h => ?_⟩⟩
    rw [hF.1] at h
    exact absurd (nI_le (Nat.le_refl _) (by omega)) h
  | succ k ih =>
    intro i st hi hk hH hF
    have hpi := PI_days (nb := nb) (nr := nr) i (q := (p, (0 : Int32), (0 : Int32))) hp.1
    obtain ⟨v1, e1, hT⟩ := ev_copyFrom (l := l) (ad := ad) (D := D) (ia := ia) (d := d + 3) (s := st) (o := 4) (o1 := 2) rfl rfl (by decide) hH h8 h4
    have hT1 := hT.s9 7
    generalize hv1 : setI v1 9 7 = v1b at hT1
    have hT2 : HR (va_up st 4 v1b 4) nb nr (pz (St nr p i) 0 7) 0 0 := by rw [va_up_self]; exact hT1
    obtain ⟨v2, e2, hH2⟩ := ev_passDay (l := l) (ad := ad) (D := D) (ia := ia) (d := d) (o := 4) rfl hT2 (PI_num hpi)
    rw [up_up] at e2
    have hH3 : HR (va_up (va_up st 4 v2) 18 (setA (st 18) 2 (upd ((st 18).2.2 2) i (nI (aR nr p i)))) 2) nb nr (days nr i (p, 0, 0)).1 (days nr i (p, 0, 0)).2.1 (days nr i (p, 0, 0)).2.2 := by
      rw [va_up_ne _ _ (by decide), va_up_ne _ _ (by decide)]
      exact hH
    obtain ⟨v3, e3, hH4⟩ := ev_passDay (l := l) (ad := ad) (D := D) (ia := ia) (d := d) (o := 2) rfl hH3 hpi
    have es : day nr ((days nr i (p, 0, 0)).1, (days nr i (p, 0, 0)).2.1, (days nr i (p, 0, 0)).2.2) = days nr (i + 1) (p, 0, 0) := (days_succ nr i (p, 0, 0)).symm
    have ecS : (days nr (i + 1) (p, 0, 0)).1.2 1 - (st 2).1 10 = nI (aS nr p i) := by
      rw [hH.n10, ← es, dm_any]
      exact (aS_eq hp.C i).1
    rw [es] at hH4
    have ecR : v2.1 10 - (st 2).1 10 = nI (aR nr p i) := by
      rw [hH.n10, hH2.n10]
      exact (aR_eq hp.C i).1
    obtain ⟨s2, hk2, hF2, hz⟩ := ih (i + 1) (va_up (va_up (va_up (va_up st 4 v2) 18 (setA (st 18) 2 (upd ((st 18).2.2 2) i (nI (aR nr p i))))) 2 v3) 18 (setA (setA (st 18) 2 (upd ((st 18).2.2 2) i (nI (aR nr p i)))) 1 (upd ((setA (st 18) 2 (upd ((st 18).2.2 2) i (nI (aR nr p i)))).2.2 1) i (nI (aS nr p i))))) (by omega) (fun o a b c => by
      rw [va_up_ne _ _ c, va_up_ne _ _ a, va_up_ne _ _ c, va_up_ne _ _ b]
      exact hk o a b c) (by
      rw [va_up_ne _ _ (by decide), va_up_self]
      exact hH4) (by
      rw [va_up_self]
      exact hF.put)
    refine ⟨s2, hk2, hF2, fun C hC => bX4_foresee_18 (o2 := 2) rfl hC ⟨fun h => ?_, fun _ => ⟨_, e1, fun sa ea => ⟨va_up st 4 v2, ?_, vp_in_nI (by omega) (by omega), fun sb eb => ⟨va_up (va_up (va_up st 4 v2) 18 (setA (st 18) 2 (upd ((st 18).2.2 2) i (nI (aR nr p i))))) 2 v3, ?_, vp_in_nI (by omega) (by omega), fun sc ec => ?_⟩⟩⟩⟩⟩
    · rw [hF.1] at h
      exact absurd h (nI_ge (by omega) (by omega))
    · rw [stI_up, hv1] at ea
      subst ea
      exact e2
    · rw [va_up_self, ecR, nI_clamp (by omega)] at eb
      unfold stA at eb
      rw [va_up_ne st v2 (show (18 : Nat) ≠ 4 by decide)] at eb
      subst eb
      exact e3
    · rw [va_up_self, hH4.n10, ecS, nI_clamp (by omega)] at ec
      unfold stA at ec
      rw [va_up_ne _ v3 (show (18 : Nat) ≠ 2 by decide), va_up_self] at ec
      subst ec
      rw [nI_1]
      exact hz C hC
theorem ev_foresee (hp : PB nb nr p) {n : Nat} (hn : n ≤ 8) (hH1 : HQ (s 1) nb nr p) : ∃ s2, K24 s s2 ∧ FW (s2 18) nr p n n ∧ Ev l ad D ia (d + 5) mX4_foresee [.ref (ad 18 0), .ref (ad 1 0), .ref (ad 2 0), .int (nI n)] s none s2 := by
  obtain ⟨f, w, hH⟩ := hH1
  have hHb : HR (va_up s 18 (setI (s 18) 0 (nI n)) 1) nb nr p f w := by
    rw [va_up_ne _ _ (by decide)]
    exact hH
  obtain ⟨v1, e1, hT⟩ := ev_copyFrom (l := l) (ad := ad) (D := D) (ia := ia) (d := d + 3) (o := 2) (o1 := 1) rfl rfl (by decide) hHb hp.1.1.1 hp.1.1.2
  obtain ⟨s2, hk2, hF2, hz⟩ := ev_fsL (l := l) (ad := ad) (D := D) (ia := ia) (d := d) (s := s) hp hn n 0 (va_up (va_up s 18 (setI (s 18) 0 (nI n))) 2 v1) (by omega) (fun o a b c => by
    rw [va_up_ne _ _ a, va_up_ne _ _ c]) (by
    rw [va_up_self]
    exact hT) ⟨by
    rw [va_up_ne _ _ (by decide), va_up_self]
    rfl, fun j hj => absurd hj (by omega)⟩
  refine ⟨s2, hk2, hF2, eX4_foresee (o1 := 1) rfl (o2 := 2) rfl (fun C hC => fun sa ea => ⟨_, ?_, hz C hC⟩)⟩
  have em : mmin (nI n) 8 = nI n := by
    unfold mmin
    rw [if_neg (nI_nlt (a := 8) (b := n) (by omega) (by omega) |> fun h q => by
      exact (nI_nlt (a := 8) (b := n) hn (by omega)) q)]
  rw [em] at ea
  subst ea
  exact e1
end LCK
