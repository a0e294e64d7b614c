section OE
variable {l : Launch} {ad : ZA} {D : va_G} {ia : Nat → ClassId} {d nb nr r b o : Nat} {s : ZS} {p : PS} {f m w : Int32}
def reV (p : PS) (r : Nat) (c : Nat) : Int32 := if c < 4 then p.1 (c + 3) r else if p.1 4 r = -4 then -4 else if c = 4 then mns p r (bk (p.1 4 r)) else dzz (p.1 3 r) (p.1 1 (bk (p.1 4 r)))
theorem op_reader (hR : RR s) (x y : Int32) : Op l ad D ia s mX8_reader mX9_reader [.int x, .int y] := by
  obtain ⟨nb, nr, p, tl, tb, flt, sn, sa, K, H, tn, hG, hC, hM⟩ := hR
  have hp := hG.1.1
  have h8 := hp.1.1
  have h4 := hp.1.2
  obtain ⟨f, w, hH⟩ := hC.1
  have hB := ev_hasR (l := l) (ad := ad) (D := D) (ia := ia) (d := 8) (s := s) (o := 1) rfl hH.n4 h4 x
  have hMB := mv_isReader (l := l) (ad := ad) (D := D) (ia := ia) (d := 7) (s := s) hM.1.2 h4 x
  by_cases cx : inN x nr = true
  · obtain ⟨r, hr, rfl⟩ := inN_nI cx
    rw [cx] at hB hMB
    have hin := vp_in_nI (show r < 4 by omega) (show 4 < 2 ^ 31 by decide)
    have hcl := nI_clamp (show r < 2 ^ 31 by omega)
    have hi6 := mv_in0 (l := l) (ad := ad) (D := D) (ia := ia) (d := 8) (s := s) y (n := 6) (z := 0) (c := 5) (by decide) (by decide)
    by_cases cy : inN y 6 = true
    · obtain ⟨c, hc, rfl⟩ := inN_nI cy
      rw [cy] at hi6
      obtain ⟨v, hev, hMM, hkn⟩ := mv_starts (l := l) (ad := ad) (D := D) (ia := ia) (d := 8) hM.1 hM.2.2.2.1 h8 h4
      have hMM2 : MM (va_up s 20 v 20) nb nr p (v.1 18) (v.1 19) (v.1 20) := by rw [va_up_self]; exact hMM
      have hRR : RR (va_up s 20 v) := ⟨nb, nr, p, tl, tb, flt, sn, sa, K, H, tn, hG, CR_20 hC, by rw [va_up_self]; exact MR_km hkn.M hM⟩
      have hdn := ev_isDone (l := l) (ad := ad) (D := D) (ia := ia) (d := 7) (s := s) (o := 1) rfl hH hp hr
      have hw := mv_ofR (l := l) (ad := ad) (D := D) (ia := ia) (d := 8) (c := 1) hMM2 hp (by decide) hr
      have ce : ∀ k, k < 6 → nI c = nI k → c = k := fun k hk h => (nI_eq (by omega) (by omega)).mp h
      refine ⟨.int (reV p r c), _, _, eX8_reader ⟨_, _, hB, fun _ => ⟨fun h => ⟨hin, ?_, rfl⟩, fun h => ⟨hin, ?_, rfl⟩, fun h => ⟨hin, ?_, rfl⟩, fun h => ⟨hin, ?_, rfl⟩, fun h => ⟨_, _, hdn, fun h2 => ?_, fun h2 => ⟨?_, rfl⟩⟩, fun h => ⟨_, _, hdn, fun h2 => ?_, fun h2 => ⟨?_, rfl⟩⟩, fun h => ?_⟩, fun h => absurd h (by decide)⟩, eX9_reader ⟨_, _, hMB, fun h => absurd h (by decide), fun _ => ⟨_, _, hi6, fun _ => ⟨_, hev, fun h => ⟨_, _, hw, fun h2 => ?_, fun h2 => ⟨?_, rfl⟩⟩, fun h => ⟨_, _, mv_ofR hMM2 hp (by
          have : ¬ 4 ≤ c := fun q => h (nI_le (a := 4) (b := c) q (by omega))
          omega) hr, ?_, rfl⟩⟩, fun h => absurd h (by decide)⟩⟩, hRR⟩
      · have := ce 0 (by omega) h
        subst this
        rw [hcl, hH.g5 hr]
        rfl
      · have := ce 1 (by omega) h
        subst this
        rw [hcl, hH.g6 hr]
        rfl
      · have := ce 2 (by omega) h
        subst this
        rw [hcl, hH.g7 hr]
        rfl
      · have := ce 3 (by omega) h
        subst this
        rw [hcl, hH.g8 hr]
        rfl
      · have := ce 4 (by omega) h
        subst this
        by_cases c1 : p.1 4 r = -4
        · rw [if_pos c1] at h2
          exact absurd h2 (by decide)
        · obtain ⟨hb, hbe⟩ := okB_bk (hp.2.2.1 r hr) c1 h8
          refine ⟨hin, _, _, (by rw [hcl, hH.g6 hr, hbe]; exact ev_minutesFor rfl hH hp hr hb), ?_, rfl⟩
          unfold reV
          rw [if_neg (by omega), if_neg c1, if_pos rfl]
      · have := ce 4 (by omega) h
        subst this
        by_cases c1 : p.1 4 r = -4
        · unfold reV
          rw [if_neg (by omega), if_pos c1]
        · rw [if_neg c1] at h2
          exact absurd rfl h2
      · have := ce 5 (by omega) h
        subst this
        by_cases c1 : p.1 4 r = -4
        · rw [if_pos c1] at h2
          exact absurd h2 (by decide)
        · obtain ⟨hb, hbe⟩ := okB_bk (hp.2.2.1 r hr) c1 h8
          refine ⟨hin, _, _, (by rw [hcl, hH.g6 hr, hbe]; exact ev_dizzyBy rfl hH hp hr hb), ?_, rfl⟩
          unfold reV
          rw [if_neg (by omega), if_neg c1, if_neg (by omega)]
      · have := ce 5 (by omega) h
        subst this
        by_cases c1 : p.1 4 r = -4
        · unfold reV
          rw [if_neg (by omega), if_pos c1]
        · rw [if_neg c1] at h2
          exact absurd rfl h2
      · rcases (show c = 0 ∨ c = 1 ∨ c = 2 ∨ c = 3 ∨ c = 4 ∨ c = 5 by omega) with rfl | rfl | rfl | rfl | rfl | rfl
        · exact absurd rfl h.1
        · exact absurd rfl h.2.1
        · exact absurd rfl h.2.2.1
        · exact absurd rfl h.2.2.2.1
        · exact absurd rfl h.2.2.2.2.1
        · exact absurd rfl h.2.2.2.2.2
      · have h44 : 4 ≤ c := (nI_leI (a := 4) (b := c) (by omega) (by omega)).mp h
        have h2 : ¬ p.1 4 r = -4 := h2
        obtain ⟨hb, hbe⟩ := okB_bk (hp.2.2.1 r hr) h2 h8
        have hbe2 : p.1 (1 + 3) r = nI (bk (p.1 4 r)) := hbe
        obtain ⟨hh, hh9, hhe⟩ := hp.2.2.2 _ hb
        rw [hbe2]
        refine ⟨fun h3 => ⟨_, _, mv_ofR (c := 0) hMM2 hp (by decide) hr, _, _, mv_of (c := 1) hMM2 hp (by decide) hb, _, _, (by rw [hhe]; exact mv_dizz _ hh9), ?_, rfl⟩, fun h3 => ⟨_, _, mv_minutesOf hMM2 hp hr hb, ?_, rfl⟩⟩
        · have : ¬ c = 4 := fun e => h3 (by rw [e]; rfl)
          unfold reV
          rw [if_neg (by omega), if_neg h2, if_neg this, hhe]
        · have := ce 4 (by omega) h3
          unfold reV
          rw [if_neg (by omega), if_neg h2, if_pos this]
      · have h44 : 4 ≤ c := (nI_leI (a := 4) (b := c) (by omega) (by omega)).mp h
        unfold reV
        rw [if_neg (by omega), if_pos h2]
      · have : ¬ 4 ≤ c := fun q => h (nI_le (a := 4) (b := c) q (by omega))
        unfold reV
        rw [if_pos (by omega)]
    · rw [bool_f cy] at hi6
      have hy : ∀ k, k < 6 → ¬ y = nI k := fun k hk e => cy (by rw [e]; exact nI_inN hk (by decide))
      exact ⟨.int (-1), _, _, eX8_reader ⟨_, _, hB, fun _ => ⟨fun h => absurd h (hy 0 (by omega)), fun h => absurd h (hy 1 (by omega)), fun h => absurd h (hy 2 (by omega)), fun h => absurd h (hy 3 (by omega)), fun h => absurd h (hy 4 (by omega)), fun h => absurd h (hy 5 (by omega)), fun _ => ⟨rfl, rfl⟩⟩, fun h => absurd h (by decide)⟩, eX9_reader ⟨_, _, hMB, fun h => absurd h (by decide), fun _ => ⟨_, _, hi6, fun h => absurd rfl h, fun _ => ⟨rfl, rfl⟩⟩⟩, nb, nr, p, tl, tb, flt, sn, sa, K, H, tn, hG, hC, hM⟩
  · rw [bool_f cx] at hB hMB
    exact ⟨.int (-1), _, _, eX8_reader ⟨_, _, hB, fun h => absurd rfl h, fun _ => ⟨rfl, rfl⟩⟩, eX9_reader ⟨_, _, hMB, fun _ => ⟨rfl, rfl⟩, fun h => absurd rfl h⟩, nb, nr, p, tl, tb, flt, sn, sa, K, H, tn, hG, hC, hM⟩
theorem nar8 {k : Nat} (h : k < 128) : vp_nar .byte (nI k).toInt8.toInt32 = nI k := by
  have hd : ∀ k : Fin 128, vp_nar .byte (nI k).toInt8.toInt32 = nI k := by decide +kernel
  exact hd ⟨k, h⟩
theorem MR_t {v : OV} {nb nr : Nat} {p : PS} {tl tl2 : Nat} {tb tb2 : Nat → Int32} {flt : Int32} {sn : Nat} {sa : Nat → Nat → Int32} {K : KT} {H : HT} {tn : Int32} (h : MR v nb nr p tl tb flt sn sa K H tn) {g : Nat → Int32} (hg : ∀ i, i < tl2 → g i = tb2 i) : MR (setI (setA v 10 g) 11 (nI tl2)) nb nr p tl2 tb2 flt sn sa K H tn := by
  obtain ⟨h1, h2, h3, h4, h5, h6⟩ := h
  exact ⟨h1, ⟨rfl, hg⟩, h3, h4, h5, h6⟩
theorem op_feed (hR : RR s) (x : Int32) : Op l ad D ia s mX8_feed mX9_feed [.int x] := by
  obtain ⟨nb, nr, p, tl, tb, flt, sn, sa, K, H, tn, hG, hC, hM⟩ := hR
  have ht := hG.2.1
  have c1 := hC.2.1
  have m1 := hM.2.1
  have ho := ev_out0 (l := l) (ad := ad) (D := D) (ia := ia) (d := 8) (s := s) (n := 127) x (y := 127) rfl (by decide)
  by_cases cx : inN x 128 = true
  · obtain ⟨k, hk, rfl⟩ := inN_nI cx
    rw [cx] at ho
    by_cases c2 : tl = 160
    · have hi := mv_in0 (l := l) (ad := ad) (D := D) (ia := ia) (d := 8) (s := s) (nI k) (n := 128) (z := 0) (c := 127) (by decide) (by decide)
      rw [cx] at hi
      refine ⟨.int (-3), _, _, eX8_feed ⟨_, _, ho, fun _ => ⟨fun h => ?_, fun _ => ⟨rfl, rfl⟩⟩, fun h => absurd rfl h⟩, eX9_feed ⟨_, _, hi, fun _ => ⟨fun h => ?_, fun _ => ⟨rfl, rfl⟩⟩, fun h => absurd h (by decide)⟩, nb, nr, p, tl, tb, flt, sn, sa, K, H, tn, hG, hC, hM⟩
      · rw [c1.1, c2] at h
        exact absurd h (by decide)
      · rw [m1.1, c2] at h
        exact absurd rfl h
    · have htl : tl < 160 := by omega
      have hin := vp_in_nI htl (show 160 < 2 ^ 31 by decide)
      have hcl := nI_clamp (show tl < 2 ^ 31 by omega)
      have e16 : ∀ v, va_up s 16 v 20 = s 20 := fun v => va_up_ne _ _ (by decide)
      have hi := fun v => mv_in0 (l := l) (ad := ad) (D := D) (ia := ia) (d := 8) (s := va_up s 16 v) (nI k) (n := 128) (z := 0) (c := 127) (by decide) (by decide)
      rw [cx] at hi
      refine ⟨.int (nI (tl + 1)), va_up s 16 (setI (setA (s 16) 0 (upd ((s 16).2.2 0) tl (nI k))) 1 (nI (tl + 1))), va_up (va_up s 16 (setI (setA (s 16) 0 (upd ((s 16).2.2 0) tl (nI k))) 1 (nI (tl + 1)))) 20 (setI (setA (s 20) 10 (upd ((s 20).2.2 10) tl (nI k))) 11 (nI (tl + 1))), eX8_feed ⟨_, _, ho, fun _ => ⟨fun _ => ⟨by rw [c1.1]; exact hin, fun s1 e1 s2 e2 => ?_⟩, fun h => ?_⟩, fun h => absurd rfl h⟩, eX9_feed ⟨_, _, hi _, fun _ => ⟨fun _ => ⟨by rw [e16, m1.1]; exact hin, fun s1 e1 s2 e2 => ?_⟩, fun h => ?_⟩, fun h => absurd h (by decide)⟩, nb, nr, p, tl + 1, upd tb tl (nI k), flt, sn, sa, K, H, tn, ⟨hG.1, ⟨by omega, fun i hi => ?_⟩, hG.2.2⟩, CR_20 (CR_t hC ⟨rfl, fun i hi => ?_⟩), ?_⟩
      · rw [c1.1, hcl, nar8 hk] at e1
        have e1 : s1 = va_up s 16 (setA (s 16) 0 (upd ((s 16).2.2 0) tl (nI k))) := e1
        subst e1
        have q : (va_up s 16 (setA (s 16) 0 (upd ((s 16).2.2 0) tl (nI k))) 16).1 1 = nI tl := by rw [va_up_self]; exact c1.1
        rw [q, nI_1, stI_up] at e2
        subst e2
        exact ⟨by rw [va_up_self]; rfl, rfl⟩
      · rw [c1.1] at h
        exact absurd (nI_lt (a := tl) (b := 160) htl (by decide)) h
      · rw [e16, m1.1, hcl] at e1
        have e1 : s1 = va_up (va_up s 16 (setI (setA (s 16) 0 (upd ((s 16).2.2 0) tl (nI k))) 1 (nI (tl + 1)))) 20 (setA (s 20) 10 (upd ((s 20).2.2 10) tl (nI k))) := by rw [e1]; unfold stA; rw [e16]
        subst e1
        have q : ((va_up (va_up s 16 (setI (setA (s 16) 0 (upd ((s 16).2.2 0) tl (nI k))) 1 (nI (tl + 1)))) 20 (setA (s 20) 10 (upd ((s 20).2.2 10) tl (nI k)))) 20).1 11 = nI tl := by rw [va_up_self]; exact m1.1
        rw [q, nI_1, stI_up] at e2
        subst e2
        exact ⟨by rw [va_up_self]; rfl, rfl⟩
      · rw [e16, m1.1] at h
        exact absurd ((nI_eq (a := tl) (b := 160) (by omega) (by omega)).mp h) c2
      · by_cases e : i = tl
        · rw [e, upd_self]
          exact ⟨k, by omega, by omega, rfl⟩
        · rw [upd_ne _ _ e]
          exact ht.2 i (by omega)
      · show upd ((s 16).2.2 0) tl (nI k) i = upd tb tl (nI k) i
        by_cases e : i = tl
        · rw [e, upd_self, upd_self]
        · rw [upd_ne _ _ e, upd_ne _ _ e]
          exact c1.2 i (by omega)
      · rw [va_up_self]
        refine MR_t hM (fun i hi => ?_)
        by_cases e : i = tl
        · rw [e, upd_self, upd_self]
        · rw [upd_ne _ _ e, upd_ne _ _ e]
          exact m1.2 i (by omega)
  · have hi := mv_in0 (l := l) (ad := ad) (D := D) (ia := ia) (d := 8) (s := s) x (n := 128) (z := 0) (c := 127) (by decide) (by decide)
    rw [bool_f cx] at hi ho
    exact ⟨.int (-1), _, _, eX8_feed ⟨_, _, ho, fun h => absurd h (by decide), fun _ => ⟨rfl, rfl⟩⟩, eX9_feed ⟨_, _, hi, fun h => absurd rfl h, fun _ => ⟨rfl, rfl⟩⟩, nb, nr, p, tl, tb, flt, sn, sa, K, H, tn, hG, hC, hM⟩
theorem op_end (hR : RR s) (x : Int32) : Op l ad D ia s mX8_end mX9_end [.int x] := by
  obtain ⟨nb, nr, p, tl, tb, flt, sn, sa, K, H, tn, hG, hC, hM⟩ := hR
  have ht := hG.2.1
  have c1 := hC.2.1
  have m1 := hM.2.1
  have ho := ev_out0 (l := l) (ad := ad) (D := D) (ia := ia) (d := 8) (s := s) (n := tl) x (y := (s 16).1 1) c1.1 (by omega)
  have hi := fun s2 (h : (s2 20).1 11 = nI tl) => mv_in0 (l := l) (ad := ad) (D := D) (ia := ia) (d := 8) (s := s2) x (n := tl + 1) (z := 0) (c := ((s2 20).1 11).toInt64) (by decide) (by rw [i64_toInt, h, nI_toInt (by omega)]; omega)
  by_cases cx : inN x (tl + 1) = true
  · rw [cx] at ho hi
    obtain ⟨k, hk, rfl⟩ := inN_nI cx
    have e16 : ∀ v, va_up s 16 v 20 = s 20 := fun v => va_up_ne _ _ (by decide)
    refine ⟨.int (nI tl), va_up s 16 (setI (s 16) 1 (nI k)), _, eX8_end ⟨_, _, ho, fun _ s1 e1 => ⟨by rw [c1.1], e1.symm⟩, fun h => absurd rfl h⟩, eX9_end ⟨_, _, hi _ (by rw [e16]; exact m1.1), fun _ s1 e1 => ⟨by rw [e16, m1.1], e1.symm⟩, fun h => absurd h (by decide)⟩, nb, nr, p, k, tb, flt, sn, sa, K, H, tn, ⟨hG.1, ⟨by omega, fun i hi => ht.2 i (by omega)⟩, hG.2.2⟩, CR_20 (CR_t hC ⟨rfl, fun i hi => c1.2 i (by omega)⟩), ?_⟩
    unfold stI
    rw [va_up_self, e16]
    obtain ⟨h1, h2, h3, h4, h5, h6⟩ := hM
    exact ⟨h1, ⟨rfl, fun i hi => h2.2 i (by omega)⟩, h3, h4, h5, h6⟩
  · rw [bool_f cx] at ho hi
    exact ⟨.int (-1), _, _, eX8_end ⟨_, _, ho, fun h => absurd h (by decide), fun _ => ⟨rfl, rfl⟩⟩, eX9_end ⟨_, _, hi _ m1.1, fun h => absurd rfl h, fun _ => ⟨rfl, rfl⟩⟩, nb, nr, p, tl, tb, flt, sn, sa, K, H, tn, hG, hC, hM⟩
end OE
