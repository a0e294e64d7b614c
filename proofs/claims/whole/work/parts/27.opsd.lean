section OD
variable {l : Launch} {ad : ZA} {D : va_G} {ia : Nat → ClassId} {d nb nr r b o : Nat} {s : ZS} {p : PS} {f m w : Int32}
def inB (x : Int32) : Bool := decide (1 ≤ x.toInt ∧ x.toInt ≤ 99)
theorem i32_1 : (1 : Int32).toInt = 1 := by decide
theorem i32_99 : (99 : Int32).toInt = 99 := by decide
theorem inB_rng {x : Int32} (h : inB x = true) : rng x 1 99 := by
  have h := of_decide_eq_true h
  exact ⟨x.toInt.toNat, by omega, by omega, nI_of_toInt (by omega)⟩
theorem ev_out1 (x : Int32) : Ev l ad D ia d mX8_outside [.int x, .int 1, .int 99] s (some (.int (b1 (!inB x)))) s := by
  unfold inB
  refine eX8_outside ⟨fun h1 => ⟨?_, rfl⟩, fun h1 => ⟨fun h2 => ⟨?_, rfl⟩, fun h2 => ⟨?_, rfl⟩⟩⟩
  · rw [Int32.lt_iff_toInt_lt, i32_1] at h1
    rw [decide_eq_false (by omega)]
    rfl
  · rw [Int32.lt_iff_toInt_lt, i32_1] at h1
    rw [Int32.le_iff_toInt_le, i32_99] at h2
    rw [decide_eq_true (by omega)]
    rfl
  · rw [Int32.le_iff_toInt_le, i32_99] at h2
    rw [decide_eq_false (by omega)]
    rfl
theorem mv_in1 (x : Int32) : Ev l ad D ia d mX9_in [.long x.toInt64, .long 1, .long 99] s (some (.int (b1 (inB x)))) s := by
  have h := mv_in (l := l) (ad := ad) (D := D) (ia := ia) (d := d) (s := s) x.toInt64 1 99
  rw [i64_toInt] at h
  exact h
def alT (nb : Nat) (c : Nat) (z : Int32) : Bool := if c = 0 then inN z 4 else if c = 1 then (z == 9 || inN z nb) else inB z
theorem mv_alterT {C : ZC} {X : Option Value} {Y : ZS} {t : Bool} {c : Nat} {z : Int32} (hM : (s 20).1 4 = nI nr) (h8 : nr ≤ 4) (hC : Zok ad D ia C (d + 2) cX9_alter 5 RX9 (some .int)) (x : Int32)
    (h0 : ¬ (inN x nr = true ∧ t = true) → X = some (.int (-1)) ∧ Y = s) (h1 : ∀ r, r < nr → x = nI r → t = true → c < 3 ∧ X = some (.int ((s 20).2.2 0 (24 + 4 * r + c))) ∧ Y = va_up s 20 (setA (s 20) 0 (upd ((s 20).2.2 0) (24 + 4 * r + c) (if c = 1 then said z else z)))) : Z l ad D ia C X Y 51 [(0, .ref (ad 20 0)), (1, .int x), (2, .int (nI c)), (3, .int z)] [.int (b1 t)] s := by
  refine bX9_alter_51 hC ⟨_, _, mv_isReader hM h8 x, fun h => h0 (fun q => by rw [b1_ne.mp h] at q; exact absurd q.1 (by decide)), fun h => ⟨fun h2 => h0 (fun q => by rw [b1_ne.mp h2] at q; exact absurd q.2 (by decide)), fun h2 => ?_⟩⟩
  obtain ⟨r, hr, rfl⟩ := inN_nI (b1_n.mp h)
  obtain ⟨hc, hX, hY⟩ := h1 r hr rfl (b1_n.mp h2)
  rw [ixR]
  refine ⟨fun h3 => ⟨_, _, mv_becomes (by omega) _, hX, ?_⟩, fun h3 => ⟨_, _, mv_asKept _, _, _, mv_becomes (by omega) _, hX, ?_⟩⟩
  · rw [if_neg (fun e => h3 (by rw [e]; rfl))] at hY
    exact hY
  · have : c = 1 := (nI_eq (a := c) (b := 1) (by omega) (by omega)).mp h3
    rw [if_pos this] at hY
    exact hY
/-- alter of the reference, by what is asked of v -/
theorem mv_alter {X : Option Value} {Y : ZS} {c : Nat} {x z : Int32} (hc : c < 3) (hb : (s 20).1 3 = nI nb) (h8 : nb ≤ 8) (h : ∀ C : ZC, Zok ad D ia C 9 cX9_alter 5 RX9 (some .int) → Z l ad D ia C X Y 51 [(0, .ref (ad 20 0)), (1, .int x), (2, .int (nI c)), (3, .int z)] [.int (b1 (alT nb c z))] s) : Ev l ad D ia 9 mX9_alter [.ref (ad 20 0), .int x, .int (nI c), .int z] s X Y := by
  refine eX9_alter (fun C hZ => ?_)
  have hT := h C hZ
  refine ⟨fun h0 => ⟨fun h1 => ⟨fun h2 => ?_, fun h2 => ⟨_, _, mv_in1 z, fun h3 => ?_, fun h3 => ?_⟩⟩, fun h1 => ⟨_, _, mv_isBookOrNone hb h8 z, ?_⟩⟩, fun h0 => ⟨_, _, mv_in3 z, ?_⟩⟩
  · rcases (show c = 0 ∨ c = 1 ∨ c = 2 by omega) with rfl | rfl | rfl
    · exact absurd rfl h0
    · exact absurd rfl h1
    · exact absurd rfl h2
  · have hc2 : c = 2 := (nI_eq (a := c) (b := 2) (by omega) (by omega)).mp h2
    subst hc2
    have e : alT nb 2 z = false := b1_ne.mp h3
    rw [e] at hT
    exact hT
  · have hc2 : c = 2 := (nI_eq (a := c) (b := 2) (by omega) (by omega)).mp h2
    subst hc2
    have e : alT nb 2 z = true := b1_n.mp h3
    rw [e] at hT
    exact hT
  · have hc2 : c = 1 := (nI_eq (a := c) (b := 1) (by omega) (by omega)).mp h1
    subst hc2
    exact hT
  · have hc2 : c = 0 := (nI_eq (a := c) (b := 0) (by omega) (by omega)).mp h0
    subst hc2
    exact hT
theorem op_alter (hR : RR s) (x y z : Int32) : Op l ad D ia s mX8_alter mX9_alter [.int x, .int y, .int z] := by
  obtain ⟨nb, nr, p, tl, tb, flt, sn, sa, K, H, tn, hG, hC, hM⟩ := hR
  have hp := hG.1.1
  have h8 := hp.1.1
  have h4 := hp.1.2
  obtain ⟨f, w, hH⟩ := hC.1
  have hB := ev_hasR (l := l) (ad := ad) (D := D) (ia := ia) (d := 8) (s := s) (o := 1) rfl hH.n4 h4 x
  have hNR := (sat0.mp hM.2.2.2.1).1
  have hbad : RR s := ⟨nb, nr, p, tl, tb, flt, sn, sa, K, H, tn, hG, hC, hM⟩
  by_cases cy : inN y 3 = true
  · obtain ⟨c, hc, rfl⟩ := inN_nI cy
    by_cases cb : inN x nr = true ∧ alT nb c z = true
    · obtain ⟨r, hr, rfl⟩ := inN_nI cb.1
      rw [cb.1] at hB
      have hr4 : r < 4 := by omega
      have ht := cb.2
      have hmod : ∀ v, Ev l ad D ia 9 mX9_alter [.ref (ad 20 0), .int (nI r), .int (nI c), .int z] (va_up s 1 v) (some (.int (p.1 (c + 3) r))) (va_up (va_up s 1 v) 20 (setA ((va_up s 1 v) 20) 0 (upd (((va_up s 1 v) 20).2.2 0) (24 + 4 * r + c) (if c = 1 then said z else z)))) := by
        intro v
        have h20 : (va_up s 1 v) 20 = s 20 := va_up_ne _ _ (by decide)
        refine mv_alter hc (by rw [h20]; exact hM.1.1) h8 (fun C hZ => mv_alterT (d := 7) (by rw [h20]; exact hM.1.2) h4 hZ (nI r) (fun h => absurd cb h) (fun r2 hr2 e _ => ?_))
        have : r = r2 := (nI_eq (by omega) (by omega)).mp e
        subst this
        exact ⟨hc, by rw [h20, hNR.2.1 c (by omega) r hr], rfl⟩
      rcases (show c = 0 ∨ c = 1 ∨ c = 2 by omega) with rfl | rfl | rfl
      · have ht : inN z 4 = true := ht
        have ho := ev_out0 (l := l) (ad := ad) (D := D) (ia := ia) (d := 8) (s := s) (n := 3) z (y := 3) rfl (by decide)
        rw [ht] at ho
        have hre := ev_replace (l := l) (ad := ad) (D := D) (ia := ia) (d := 8) (s := s) (o := 1) (k := 5) (n := 4) (i := r) (zis_of rfl rfl) hr4 (by decide) z
        refine ⟨.int (p.1 3 r), _, _, eX8_alter ⟨_, _, hB, fun _ => ⟨fun _ => ⟨_, _, ho, fun _ => ⟨_, _, hre, by rw [hH.g5 hr], rfl⟩, fun h => absurd rfl h⟩, fun h => absurd h (by decide), fun h => absurd h (by decide), fun h => absurd rfl h.1⟩, fun h => absurd h (by decide)⟩, hmod _, ?_⟩
        exact op_cell hG hC hM (p2 := pr p 3 r z) (by omega) ⟨f, w, hH.w5 r z⟩ (hG.1.row3 (rng_in ht)) (hNR.rd h8 h4 (c := 0) (by decide) hr z)
      · have ht : (z == 9 || inN z nb) = true := ht
        have ho := ev_isBookOrNone (l := l) (ad := ad) (D := D) (ia := ia) (d := 7) (s := s) (o := 1) rfl hH.n0 h8 z
        rw [ht] at ho
        have hre := ev_replace (l := l) (ad := ad) (D := D) (ia := ia) (d := 8) (s := s) (o := 1) (k := 6) (n := 4) (i := r) (zis_of rfl rfl) hr4 (by decide) (said z)
        refine ⟨.int (p.1 4 r), _, _, eX8_alter ⟨_, _, hB, fun _ => ⟨fun h => absurd h (by decide), fun _ => ⟨_, _, ho, fun h => absurd h (by decide), fun _ => ⟨_, _, ev_bookSaid z, _, _, hre, by rw [hH.g6 hr], rfl⟩⟩, fun h => absurd h (by decide), fun h => absurd rfl h.2.1⟩, fun h => absurd h (by decide)⟩, hmod _, ?_⟩
        exact op_cell hG hC hM (p2 := pr p 4 r (said z)) (by omega) ⟨f, w, hH.w6 r (said z)⟩ (hG.1.row4 (okB_said ht)) (hNR.rd h8 h4 (c := 1) (by decide) hr (said z))
      · have ht : inB z = true := ht
        have ho := ev_out1 (l := l) (ad := ad) (D := D) (ia := ia) (d := 8) (s := s) z
        rw [ht] at ho
        have hre := ev_replace (l := l) (ad := ad) (D := D) (ia := ia) (d := 8) (s := s) (o := 1) (k := 7) (n := 4) (i := r) (zis_of rfl rfl) hr4 (by decide) z
        refine ⟨.int (p.1 5 r), _, _, eX8_alter ⟨_, _, hB, fun _ => ⟨fun h => absurd h (by decide), fun h => absurd h (by decide), fun _ => ⟨_, _, ho, fun _ => ⟨_, _, hre, by rw [hH.g7 hr], rfl⟩, fun h => absurd rfl h⟩, fun h => absurd rfl h.2.2⟩, fun h => absurd h (by decide)⟩, hmod _, ?_⟩
        exact op_cell hG hC hM (p2 := pr p 5 r z) (by omega) ⟨f, w, hH.w7 r z⟩ (hG.1.row5 (inB_rng ht)) (hNR.rd h8 h4 (c := 2) (by decide) hr z)
    · have hmod : Ev l ad D ia 9 mX9_alter [.ref (ad 20 0), .int x, .int (nI c), .int z] s (some (.int (-1))) s :=
        mv_alter hc hM.1.1 h8 (fun C hZ => mv_alterT (d := 7) hM.1.2 h4 hZ x (fun _ => ⟨rfl, rfl⟩) (fun r hr e h => absurd ⟨by rw [e]; exact nI_inN hr (by omega), h⟩ cb))
      refine ⟨.int (-1), _, _, eX8_alter ⟨_, _, hB, fun h => ⟨fun h0 => ⟨_, _, ev_out0 (n := 3) z rfl (by decide), fun h2 => ?_, fun _ => ⟨rfl, rfl⟩⟩, fun h0 => ⟨_, _, ev_isBookOrNone rfl hH.n0 h8 z, fun _ => ⟨rfl, rfl⟩, fun h2 => ?_⟩, fun h0 => ⟨_, _, ev_out1 z, fun h2 => ?_, fun _ => ⟨rfl, rfl⟩⟩, fun _ => ⟨rfl, rfl⟩⟩, fun _ => ⟨rfl, rfl⟩⟩, hmod, hbad⟩
      · have hc2 : c = 0 := (nI_eq (a := c) (b := 0) (by omega) (by omega)).mp h0
        subst hc2
        have e := b1_ne.mp h2
        exact absurd ⟨b1_n.mp h, by simpa [alT] using e⟩ cb
      · have hc2 : c = 1 := (nI_eq (a := c) (b := 1) (by omega) (by omega)).mp h0
        subst hc2
        exact absurd ⟨b1_n.mp h, b1_n.mp h2⟩ cb
      · have hc2 : c = 2 := (nI_eq (a := c) (b := 2) (by omega) (by omega)).mp h0
        subst hc2
        have e := b1_ne.mp h2
        exact absurd ⟨b1_n.mp h, by simpa [alT] using e⟩ cb
  · have hy : ¬ y = 0 ∧ ¬ y = 1 ∧ ¬ y = 2 := ⟨fun e => cy (by rw [e]; decide), fun e => cy (by rw [e]; decide), fun e => cy (by rw [e]; decide)⟩
    refine ⟨.int (-1), _, _, eX8_alter ⟨_, _, hB, fun h => ⟨fun h0 => absurd h0 hy.1, fun h0 => absurd h0 hy.2.1, fun h0 => absurd h0 hy.2.2, fun _ => ⟨rfl, rfl⟩⟩, fun _ => ⟨rfl, rfl⟩⟩, eX9_alter (fun C hZ => ⟨fun _ => ⟨fun _ => ⟨fun _ => ?_, fun h => absurd h hy.2.2⟩, fun h => absurd h hy.2.1⟩, fun h => absurd h hy.1⟩), hbad⟩
    exact bX9_alter_51 hZ ⟨_, _, mv_isReader hM.1.2 h4 x, fun _ => ⟨rfl, rfl⟩, fun _ => ⟨fun _ => ⟨rfl, rfl⟩, fun h => absurd rfl h⟩⟩
def bit8 : Nat → Nat → Int32 → Int32 → Int32
  | 0, _, _, a => a
  | k + 1, i, x, a => bit8 k (i + 1) x (a + ((x >>> (nI i &&& 31)) &&& 1))
theorem mv_bitsOf (x : Int32) : Ev l ad D ia d mX9_bitsOf [.int x] s (some (.int (bit8 8 0 x 0))) s := by
  refine eX9_bitsOf (fun C hC => ?_)
  have h : ∀ (k i : Nat) (a : Int32), i + k = 8 → Z l ad D ia C (some (.int (bit8 k i x a))) s 4 [(0, .int x), (1, .int a), (2, .int (nI i))] [] s := by
    intro k
    induction k with
    | zero =>
      intro i a hk
      exact bX9_bitsOf_4 hC ⟨fun _ => ⟨rfl, rfl⟩, fun h => absurd (nI_le (a := 8) (b := i) (by omega) (by omega)) h⟩
    | succ k ih =>
      intro i a hk
      refine bX9_bitsOf_4 hC ⟨fun h => absurd h (nI_ge (a := i) (b := 8) (by omega) (by omega)), fun _ => ?_⟩
      rw [nI_1]
      exact ih (i + 1) _ (by omega)
  exact h 8 0 0 rfl
def bitC (x0 : Int32) : Int32 := ((((((((x0 - ((ushr x0 1) &&& 1431655765)) &&& 858993459) + ((ushr (x0 - ((ushr x0 1) &&& 1431655765)) 2) &&& 858993459)) + (ushr (((x0 - ((ushr x0 1) &&& 1431655765)) &&& 858993459) + ((ushr (x0 - ((ushr x0 1) &&& 1431655765)) 2) &&& 858993459)) 4)) &&& 252645135) + (ushr (((((x0 - ((ushr x0 1) &&& 1431655765)) &&& 858993459) + ((ushr (x0 - ((ushr x0 1) &&& 1431655765)) 2) &&& 858993459)) + (ushr (((x0 - ((ushr x0 1) &&& 1431655765)) &&& 858993459) + ((ushr (x0 - ((ushr x0 1) &&& 1431655765)) 2) &&& 858993459)) 4)) &&& 252645135) 8)) + (ushr ((((((x0 - ((ushr x0 1) &&& 1431655765)) &&& 858993459) + ((ushr (x0 - ((ushr x0 1) &&& 1431655765)) 2) &&& 858993459)) + (ushr (((x0 - ((ushr x0 1) &&& 1431655765)) &&& 858993459) + ((ushr (x0 - ((ushr x0 1) &&& 1431655765)) 2) &&& 858993459)) 4)) &&& 252645135) + (ushr (((((x0 - ((ushr x0 1) &&& 1431655765)) &&& 858993459) + ((ushr (x0 - ((ushr x0 1) &&& 1431655765)) 2) &&& 858993459)) + (ushr (((x0 - ((ushr x0 1) &&& 1431655765)) &&& 858993459) + ((ushr (x0 - ((ushr x0 1) &&& 1431655765)) 2) &&& 858993459)) 4)) &&& 252645135) 8)) 16)) &&& 63)
theorem ev_bitCount (x : Int32) : Ev l ad D ia d mJ6_bitCount_0f7a4 [.int x] s (some (.int (bitC x))) s := eJ6_bitCount_0f7a4 ⟨rfl, rfl⟩
theorem bitC_8 {k : Nat} (h : k ≤ 255) : bitC (nI k) = bit8 8 0 (nI k) 0 := by
  have hd : ∀ k : Fin 256, bitC (nI k) = bit8 8 0 (nI k) 0 := by decide +kernel
  exact hd ⟨k, by omega⟩
theorem bitC_10 {k : Nat} (h : k ≤ 1023) : bitC (nI k) = bit8 10 0 (nI k) 0 := by
  have hd : ∀ k : Fin 1024, bitC (nI k) = bit8 10 0 (nI k) 0 := by decide +kernel
  exact hd ⟨k, by omega⟩
theorem op_forgets (hR : RR s) (x : Int32) : Op l ad D ia s mX8_forgets mX9_forgets [.int x] := by
  obtain ⟨nb, nr, p, tl, tb, flt, sn, sa, K, H, tn, hG, hC, hM⟩ := hR
  have hp := hG.1.1
  have h8 := hp.1.1
  have h4 := hp.1.2
  obtain ⟨f, w, hH⟩ := hC.1
  have hB := ev_hasR (l := l) (ad := ad) (D := D) (ia := ia) (d := 8) (s := s) (o := 1) rfl hH.n4 h4 x
  have hMB := fun s2 (h : (s2 20).1 4 = nI nr) => mv_isReader (l := l) (ad := ad) (D := D) (ia := ia) (d := 7) (s := s2) h h4 x
  have hNR := (sat0.mp hM.2.2.2.1).1
  by_cases cx : inN x nr = true
  · obtain ⟨r, hr, rfl⟩ := inN_nI cx
    rw [cx] at hB hMB
    have hr4 : r < 4 := by omega
    obtain ⟨k, -, hk, hke⟩ := (hG.1.2.2.1 r hr).2.2
    have hre := ev_replace (l := l) (ad := ad) (D := D) (ia := ia) (d := 8) (s := s) (o := 1) (k := 8) (n := 4) (i := r) (zis_of rfl rfl) hr4 (by decide) 0
    have h20 : ∀ v, (va_up s 1 v) 20 = s 20 := fun v => va_up_ne _ _ (by decide)
    have hmod : ∀ v, Ev l ad D ia 9 mX9_forgets [.ref (ad 20 0), .int (nI r)] (va_up s 1 v) (some (.int (bit8 8 0 (p.1 6 r) 0))) (va_up (va_up s 1 v) 20 (setA ((va_up s 1 v) 20) 0 (upd (((va_up s 1 v) 20).2.2 0) (24 + 4 * r + 3) 0))) := by
      intro v
      have e : (24 + 4 * nI r) + 3 = nI (24 + 4 * r + 3) := ixR r 3
      have hbe := mv_becomes (l := l) (ad := ad) (D := D) (ia := ia) (d := 8) (s := va_up s 1 v) (i := 24 + 4 * r + 3) (by omega) 0
      rw [← e] at hbe
      refine eX9_forgets ⟨_, _, hMB _ (by rw [h20]; exact hM.1.2), fun h => absurd h (by decide), fun _ => ⟨_, _, hbe, _, _, mv_bitsOf _, ?_, rfl⟩⟩
      rw [h20, hNR.2.1 3 (by decide) r hr]
    refine ⟨.int (bit8 8 0 (p.1 6 r) 0), _, _, eX8_forgets ⟨_, _, hB, fun _ => ⟨_, _, hre, _, _, ev_bitCount _, ?_, rfl⟩, fun h => absurd h (by decide)⟩, hmod _, ?_⟩
    · rw [hH.g8 hr, hke, bitC_8 hk]
    · exact op_cell hG hC hM (p2 := pr p 6 r 0) (by omega) ⟨f, w, hH.w8 r 0⟩ (hG.1.row6 ⟨0, by omega, by omega, rfl⟩) (hNR.rd h8 h4 (c := 3) (by decide) hr 0)
  · rw [bool_f cx] at hB hMB
    exact ⟨.int (-1), _, _, eX8_forgets ⟨_, _, hB, fun h => absurd rfl h, fun _ => ⟨rfl, rfl⟩⟩, eX9_forgets ⟨_, _, hMB _ hM.1.2, fun _ => ⟨rfl, rfl⟩, fun h => absurd rfl h⟩, nb, nr, p, tl, tb, flt, sn, sa, K, H, tn, hG, hC, hM⟩
end OD
