section OC
variable {l : Launch} {ad : ZA} {D : va_G} {ia : Nat → ClassId} {d nb nr r b o : Nat} {s : ZS} {p : PS} {f m w : Int32}
theorem mv_in9 (x : Int32) : Ev l ad D ia d mX9_in [.long x.toInt64, .long 0, .long 9] s (some (.int (b1 (inN x 10)))) s := mv_in0 x (by decide) (by decide)
theorem mv_in3 (x : Int32) : Ev l ad D ia d mX9_in [.long x.toInt64, .long 0, .long 3] s (some (.int (b1 (inN x 4)))) s := mv_in0 x (by decide) (by decide)
/-- shelve: what is asked of v, by what -/
def shT (nb : Nat) (c : Nat) (z : Int32) : Bool := if c = 0 then inN z 8 else if c = 1 then inN z 10 else (z == 9 || inN z nb)
theorem op_shelve (hR : RR s) (x y z : Int32) : Op l ad D ia s mX8_shelve mX9_shelve [.int x, .int y, .int z] := by
  obtain ⟨nb, nr, p, tl, tb, flt, sn, sa, K, H, tn, hG, hC, hM⟩ := hR
  have hp := hG.1.1
  have h8 := hp.1.1
  have h4 := hp.1.2
  obtain ⟨f, w, hH⟩ := hC.1
  have hB := ev_hasB (l := l) (ad := ad) (D := D) (ia := ia) (d := 8) (s := s) (o := 1) rfl hH.n0 h8 x
  have hNR := (sat0.mp hM.2.2.2.1).1
  have hbad : ∀ s2, s2 = s → RR s2 := fun s2 e => by rw [e]; exact ⟨nb, nr, p, tl, tb, flt, sn, sa, K, H, tn, hG, hC, hM⟩
  by_cases cy : inN y 3 = true
  · obtain ⟨c, hc, rfl⟩ := inN_nI cy
    by_cases cb : inN x nb = true ∧ shT nb c z = true
    · obtain ⟨b, hb, rfl⟩ := inN_nI cb.1
      rw [cb.1] at hB
      have hb8 : b < 8 := by omega
      have ht := cb.2
      have hmod : ∀ v, Ev l ad D ia 9 mX9_shelve [.ref (ad 20 0), .int (nI b), .int (nI c), .int z] (va_up s 1 v) (some (.int (p.1 c b))) (va_up (va_up s 1 v) 20 (setA ((va_up s 1 v) 20) 0 (upd (((va_up s 1 v) 20).2.2 0) (3 * b + c) (if c = 2 then said z else z)))) := by
        intro v
        have h20 : (va_up s 1 v) 20 = s 20 := va_up_ne _ _ (by decide)
        refine eX9_shelve (fun C hZ => ?_)
        have hT : Z l ad D ia C (some (.int (p.1 c b))) (va_up (va_up s 1 v) 20 (setA ((va_up s 1 v) 20) 0 (upd (((va_up s 1 v) 20).2.2 0) (3 * b + c) (if c = 2 then said z else z)))) 46 [(0, .ref (ad 20 0)), (1, .int (nI b)), (2, .int (nI c)), (3, .int z)] [.int (b1 (shT nb c z))] (va_up s 1 v) :=
          mv_shelveT (by rw [h20]; exact hM.1.1) h8 hZ (nI b) (fun h => absurd cb h) (fun b2 hb2 e _ => by
            have : b = b2 := (nI_eq (by omega) (by omega)).mp e
            subst this
            exact ⟨hc, by rw [h20, hNR.1 c hc b hb], rfl⟩)
        rw [ht] at hT
        refine ⟨fun h0 => ⟨fun h1 => ⟨fun h2 => ?_, fun h2 => ⟨_, _, mv_isBookOrNone (by rw [h20]; exact hM.1.1) h8 z, fun h3 => ?_, fun h3 => hT⟩⟩, fun h1 => ⟨_, _, mv_in9 z, ?_⟩⟩, fun h0 => ⟨_, _, mv_isBay z, ?_⟩⟩
        · rcases (show c = 0 ∨ c = 1 ∨ c = 2 by omega) with rfl | rfl | rfl
          · exact absurd rfl h0
          · exact absurd rfl h1
          · exact absurd rfl h2
        · have hc2 : c = 2 := (nI_eq (a := c) (b := 2) (by omega) (by omega)).mp h2
          subst hc2
          have h4 : (z == 9 || inN z nb) = true := ht
          rw [h4] at h3
          exact absurd h3 (by decide)
        · have hc2 : c = 1 := (nI_eq (a := c) (b := 1) (by omega) (by omega)).mp h1
          subst hc2
          have h4 : inN z 10 = true := ht
          rw [h4]
          exact hT
        · have hc2 : c = 0 := (nI_eq (a := c) (b := 0) (by omega) (by omega)).mp h0
          subst hc2
          have h4 : inN z 8 = true := ht
          rw [h4]
          exact hT
      rcases (show c = 0 ∨ c = 1 ∨ c = 2 by omega) with rfl | rfl | rfl
      · have ht : inN z 8 = true := ht
        have ho := ev_out0 (l := l) (ad := ad) (D := D) (ia := ia) (d := 8) (s := s) (n := 7) z (y := 7) rfl (by decide)
        rw [ht] at ho
        have hre := ev_replace (l := l) (ad := ad) (D := D) (ia := ia) (d := 8) (s := s) (o := 1) (k := 1) (n := 8) (i := b) (zis_of rfl rfl) hb8 (by decide) z
        refine ⟨.int (p.1 0 b), _, _, eX8_shelve ⟨_, _, hB, fun _ => ⟨fun _ => ⟨_, _, ho, fun _ => ⟨_, _, hre, by rw [hH.g1 hb], rfl⟩, fun h => absurd rfl h⟩, fun h => absurd h (by decide), fun h => absurd h (by decide), fun h => absurd rfl h.1⟩, fun h => absurd h (by decide)⟩, hmod _, ?_⟩
        exact op_cell hG hC hM (p2 := pr p 0 b z) (by omega) ⟨f, w, hH.w1 b z⟩ (hG.1.row0 (rng_in ht)) (hNR.bw h8 h4 (c := 0) (by decide) hb z)
      · have ht : inN z 10 = true := ht
        have ho := ev_out0 (l := l) (ad := ad) (D := D) (ia := ia) (d := 8) (s := s) (n := 9) z (y := 9) rfl (by decide)
        rw [ht] at ho
        have hre := ev_replace (l := l) (ad := ad) (D := D) (ia := ia) (d := 8) (s := s) (o := 1) (k := 2) (n := 8) (i := b) (zis_of rfl rfl) hb8 (by decide) z
        obtain ⟨h9, hh9, hz9⟩ := inN_nI ht
        refine ⟨.int (p.1 1 b), _, _, eX8_shelve ⟨_, _, hB, fun _ => ⟨fun h => absurd h (by decide), fun _ => ⟨_, _, ho, fun _ => ⟨_, _, hre, by rw [hH.g2 hb], rfl⟩, fun h => absurd rfl h⟩, fun h => absurd h (by decide), fun h => absurd rfl h.2.1⟩, fun h => absurd h (by decide)⟩, hmod _, ?_⟩
        exact op_cell hG hC hM (p2 := pr p 1 b z) (by omega) ⟨f, w, hH.w2 b z⟩ (hG.1.row1 ⟨h9, by omega, hz9⟩) (hNR.bw h8 h4 (c := 1) (by decide) hb z)
      · have ht : (z == 9 || inN z nb) = true := ht
        have ho := ev_isBookOrNone (l := l) (ad := ad) (D := D) (ia := ia) (d := 7) (s := s) (o := 1) rfl hH.n0 h8 z
        rw [ht] at ho
        have hre := ev_replace (l := l) (ad := ad) (D := D) (ia := ia) (d := 8) (s := s) (o := 1) (k := 3) (n := 8) (i := b) (zis_of rfl rfl) hb8 (by decide) (said z)
        refine ⟨.int (p.1 2 b), _, _, eX8_shelve ⟨_, _, hB, fun _ => ⟨fun h => absurd h (by decide), fun h => absurd h (by decide), fun _ => ⟨_, _, ho, fun h => absurd h (by decide), fun _ => ⟨_, _, ev_bookSaid z, _, _, hre, by rw [hH.g3 hb], rfl⟩⟩, fun h => absurd rfl h.2.2⟩, fun h => absurd h (by decide)⟩, hmod _, ?_⟩
        exact op_cell hG hC hM (p2 := pr p 2 b (said z)) (by omega) ⟨f, w, hH.w3 b (said z)⟩ (hG.1.row2 (okB_said ht)) (hNR.bw h8 h4 (c := 2) (by decide) hb (said z))
    · have hT : ∀ C : ZC, Zok ad D ia C 9 cX9_shelve 5 RX9 (some .int) → Z l ad D ia C (some (.int (-1))) s 46 [(0, .ref (ad 20 0)), (1, .int x), (2, .int (nI c)), (3, .int z)] [.int (b1 (shT nb c z))] s := fun C hZ =>
        mv_shelveT (d := 7) hM.1.1 h8 hZ x (fun _ => ⟨rfl, rfl⟩) (fun b hb e h => absurd ⟨by rw [e]; exact nI_inN hb (by omega), h⟩ cb)
      have hmod : Ev l ad D ia 9 mX9_shelve [.ref (ad 20 0), .int x, .int (nI c), .int z] s (some (.int (-1))) s := by
        refine eX9_shelve (fun C hZ => ?_)
        have hT := hT C hZ
        refine ⟨fun h0 => ⟨fun h1 => ⟨fun h2 => ?_, fun h2 => ⟨_, _, mv_isBookOrNone hM.1.1 h8 z, fun h3 => ?_, fun h3 => ?_⟩⟩, fun h1 => ⟨_, _, mv_in9 z, ?_⟩⟩, fun h0 => ⟨_, _, mv_isBay z, ?_⟩⟩
        · rcases (show c = 0 ∨ c = 1 ∨ c = 2 by omega) with rfl | rfl | rfl
          · exact absurd rfl h0
          · exact absurd rfl h1
          · exact absurd rfl h2
        · have hc2 : c = 2 := (nI_eq (a := c) (b := 2) (by omega) (by omega)).mp h2
          subst hc2
          have e : shT nb 2 z = false := b1_ne.mp h3
          rw [e] at hT
          exact hT
        · have hc2 : c = 2 := (nI_eq (a := c) (b := 2) (by omega) (by omega)).mp h2
          subst hc2
          have e : shT nb 2 z = true := b1_n.mp h3
          rw [e] at hT
          exact hT
        · have hc2 : c = 1 := (nI_eq (a := c) (b := 1) (by omega) (by omega)).mp h1
          subst hc2
          exact hT
        · have hc2 : c = 0 := (nI_eq (a := c) (b := 0) (by omega) (by omega)).mp h0
          subst hc2
          exact hT
      refine ⟨.int (-1), _, _, eX8_shelve ⟨_, _, hB, fun h => ⟨fun h0 => ⟨_, _, ev_out0 (n := 7) z rfl (by decide), fun h2 => ?_, fun _ => ⟨rfl, rfl⟩⟩, fun h0 => ⟨_, _, ev_out0 (n := 9) z rfl (by decide), fun h2 => ?_, fun _ => ⟨rfl, rfl⟩⟩, fun h0 => ⟨_, _, ev_isBookOrNone rfl hH.n0 h8 z, fun _ => ⟨rfl, rfl⟩, fun h2 => ?_⟩, fun _ => ⟨rfl, rfl⟩⟩, fun _ => ⟨rfl, rfl⟩⟩, hmod, hbad _ rfl⟩
      · have hc2 : c = 0 := (nI_eq (a := c) (b := 0) (by omega) (by omega)).mp h0
        subst hc2
        have e := b1_ne.mp h2
        exact absurd ⟨b1_n.mp h, by simpa [shT] using e⟩ cb
      · have hc2 : c = 1 := (nI_eq (a := c) (b := 1) (by omega) (by omega)).mp h0
        subst hc2
        have e := b1_ne.mp h2
        exact absurd ⟨b1_n.mp h, by simpa [shT] using e⟩ cb
      · have hc2 : c = 2 := (nI_eq (a := c) (b := 2) (by omega) (by omega)).mp h0
        subst hc2
        exact absurd ⟨b1_n.mp h, b1_n.mp h2⟩ cb
  · have hy : ¬ y = 0 ∧ ¬ y = 1 ∧ ¬ y = 2 := ⟨fun e => cy (by rw [e]; decide), fun e => cy (by rw [e]; decide), fun e => cy (by rw [e]; decide)⟩
    refine ⟨.int (-1), _, _, eX8_shelve ⟨_, _, hB, fun h => ⟨fun h0 => absurd h0 hy.1, fun h0 => absurd h0 hy.2.1, fun h0 => absurd h0 hy.2.2, fun _ => ⟨rfl, rfl⟩⟩, fun _ => ⟨rfl, rfl⟩⟩, eX9_shelve (fun C hZ => ⟨fun _ => ⟨fun _ => ⟨fun _ => ?_, fun h => absurd h hy.2.2⟩, fun h => absurd h hy.2.1⟩, fun h => absurd h hy.1⟩), hbad _ rfl⟩
    exact bX9_shelve_46 hZ ⟨_, _, mv_isBook hM.1.1 h8 x, fun _ => ⟨rfl, rfl⟩, fun _ => ⟨fun _ => ⟨rfl, rfl⟩, fun h => absurd rfl h⟩⟩
end OC
