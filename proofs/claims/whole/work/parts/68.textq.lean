/-! THE TEXT, the reference's side: a line -/
section TXP
variable {l : Launch} {ad : ZA} {D : va_G} {ia : Nat → ClassId} {d : Nat} {s : ZS} {tl : Nat} {tb : Nat → Int32} {v : OV} {t : Nat × Nat × Nat} {L : LQ}
theorem b1_fits (b : Bool) : fits .boolean (.int (b1 b)) = true := by cases b <;> rfl
theorem mv_tail (h160 : tl ≤ 160) (hby : ∀ j, j < tl → rng (tb j) 0 127) (ho : okT tl (.inr t)) {x1 : Int32} {fl : Bool} {R : TS → TS} (hR : ∀ e, R (.inl e) = .inl e) (hRo : ∀ r, okT tl r → okT tl (R r)) {P : OV → Prop} (hP : ∀ a b, P a → FM a b → P b) (h : MT v tl tb (.inr t))
    (hline : ∀ v1 u, nxt tl tb (.inr t) = .inr u → MT v1 tl tb (.inr u) → FM (setI v 8 (b1 fl)) v1 → ∃ v2, Ev l ad D ia (d + 3) mX9_readLineOf [.ref (ad 20 0), .int x1] (va_up s 20 v1) none (va_up s 20 v2) ∧ MT v2 tl tb (R (.inr u)) ∧ KQ v1 v2 ∧ ((∃ w, R (.inr u) = .inr w) → P v2)) :
    ∃ v2, (∀ C : ZC, Zok ad D ia C (d + 4) cX9_readLine 2 RX9 none → Z l ad D ia C none (va_up s 20 v2) 114 [(0, .ref (ad 20 0)), (1, .int x1)] [.int (b1 fl), .ref (ad 20 0)] (va_up s 20 v)) ∧ MT v2 tl tb (nxt tl tb (bnd (R (nxt tl tb (.inr t))) chS)) ∧ KQ v v2 ∧ ((∃ w, nxt tl tb (bnd (R (nxt tl tb (.inr t))) chS) = .inr w) → P v2) := by
  obtain ⟨v1, e1, m1, f1⟩ := mv_takes (l := l) (ad := ad) (D := D) (ia := ia) (d := d + 2) (s := s) h160 hby ho (h.I (b1 fl) (k := 8) (by decide))
  have o1 := nxt_ok (tb := tb) ho
  have k1 : KQ v v1 := (KQ.I v (b1 fl) (k := 8) (by decide)).tr f1.Q
  have es : ∀ s2 : ZS, s2 = stI (va_up s 20 v) 20 8 (b1 fl) → s2 = va_up s 20 (setI v 8 (b1 fl)) := fun s2 e => by rw [e, stI_up]
  generalize er : nxt tl tb (.inr t) = r1 at m1 o1 ⊢
  cases r1 with
  | inl e =>
    rw [hR]
    refine ⟨v1, fun C hC => bX9_readLine_114 hC ⟨⟨b1_nar fl, b1_fits fl⟩, fun s2 e2 => ?_⟩, m1, k1, fun ⟨w, q⟩ => by injection q⟩
    have e2 := es s2 e2
    subst e2
    exact ⟨_, e1, fun q => absurd q (mt_gt m1 o1), fun _ => ⟨rfl, rfl⟩⟩
  | inr u =>
    obtain ⟨v2, e2, m2, k2, p2⟩ := hline v1 u er m1 f1
    have o2 := hRo _ o1
    generalize R (.inr u) = r2 at m2 p2 o2 ⊢
    have st : ∀ {Y : ZS}, ((¬ ((va_up s 20 v2 20).1 16) = 0 → (∃ s9 : ZS, Ev l ad D ia (d + 3) mX9_takes [.ref (ad 20 0)] (va_up s 20 v2) none s9 ∧ ((none : Option Value) = none ∧ Y = s9))) ∧ (((va_up s 20 v2 20).1 16) = 0 → ((¬ ((va_up s 20 v2 20).1 14) = 3 → (∃ s12 : ZS, Ev l ad D ia (d + 3) mX9_needs [.ref (ad 20 0), .int 0, .int 2] (va_up s 20 v2) none s12 ∧ (∃ s14 : ZS, Ev l ad D ia (d + 3) mX9_takes [.ref (ad 20 0)] s12 none s14 ∧ ((none : Option Value) = none ∧ Y = s14)))) ∧ (((va_up s 20 v2 20).1 14) = 3 → (∃ s16 : ZS, Ev l ad D ia (d + 3) mX9_needs [.ref (ad 20 0), .int 1, .int 2] (va_up s 20 v2) none s16 ∧ (∃ s18 : ZS, Ev l ad D ia (d + 3) mX9_takes [.ref (ad 20 0)] s16 none s18 ∧ ((none : Option Value) = none ∧ Y = s18))))))) → ∀ C : ZC, Zok ad D ia C (d + 4) cX9_readLine 2 RX9 none → Z l ad D ia C none Y 114 [(0, .ref (ad 20 0)), (1, .int x1)] [.int (b1 fl), .ref (ad 20 0)] (va_up s 20 v) := fun hk C hC => bX9_readLine_114 hC ⟨⟨b1_nar fl, b1_fits fl⟩, fun s2 q2 => by
      have q2 := es s2 q2
      subst q2
      exact ⟨_, e1, fun _ => ⟨_, e2, hk⟩, fun q => absurd (by rw [va_up_self, m1.2.1]; decide) q⟩⟩
    cases r2 with
    | inl e =>
      obtain ⟨v3, e3, m3, f3⟩ := mv_takes (l := l) (ad := ad) (D := D) (ia := ia) (d := d + 2) (s := s) h160 hby o2 m2
      exact ⟨v3, st ⟨fun _ => ⟨_, e3, rfl, rfl⟩, fun q => absurd q (mt_ne m2 o2)⟩, m3, (k1.tr k2).tr f3.Q, fun ⟨w, q⟩ => by injection q⟩
    | inr w =>
      have ez : bnd (.inr w) chS = chS w := rfl
      rw [ez]
      have w3 := o2.1
      have f16 : (va_up s 20 v2 20).1 16 = 0 := by rw [va_up_self]; exact m2.2.1
      have f14 : (va_up s 20 v2 20).1 14 = nI w.1 := by rw [va_up_self]; exact m2.2.2.1
      unfold chS
      by_cases c : w.1 = 3
      · rw [if_pos c]
        obtain ⟨v3, e3, m3, f3⟩ := mv_takes (l := l) (ad := ad) (D := D) (ia := ia) (d := d + 2) (s := s) h160 hby o2 m2
        exact ⟨v3, st ⟨fun q => absurd f16 q, fun _ => ⟨fun q => absurd (by rw [f14, c]; rfl) q, fun _ => ⟨_, mv_need1 (by decide) _, _, e3, rfl, rfl⟩⟩⟩, m3, (k1.tr k2).tr f3.Q, fun _ => hP _ _ (p2 ⟨w, rfl⟩) f3⟩
      · rw [if_neg c]
        obtain ⟨v3, e3, m3, f3⟩ := mv_needR (l := l) (ad := ad) (D := D) (ia := ia) (d := d + 3) (s := s) m2 2
        have o3 : okT tl (.inl (2, w.2.1)) := ⟨Nat.le_of_ble_eq_true rfl, Nat.le_of_ble_eq_true rfl, Nat.le_trans o2.2.1 o2.2.2.1⟩
        obtain ⟨v4, e4, m4, f4⟩ := mv_takes (l := l) (ad := ad) (D := D) (ia := ia) (d := d + 2) (s := s) h160 hby o3 m3
        exact ⟨v4, st ⟨fun q => absurd f16 q, fun _ => ⟨fun _ => ⟨_, e3, _, e4, rfl, rfl⟩, fun q => absurd ((nI_eq (a := w.1) (b := 3) (by omega) (by omega)).mp (f14.symm.trans q)) c⟩⟩, m4, ((k1.tr k2).tr f3.Q).tr f4.Q, fun ⟨w, q⟩ => by injection q⟩
/-- behind a fault -/
theorem mv_114L {e : Nat × Nat} (h : MT v tl tb (.inl e)) (ho : okT tl (.inl e)) (x1 : Int32) (fl : Bool) : ∀ C : ZC, Zok ad D ia C (d + 4) cX9_readLine 2 RX9 none → Z l ad D ia C none (va_up s 20 (setI v 8 (b1 fl))) 114 [(0, .ref (ad 20 0)), (1, .int x1)] [.int (b1 fl), .ref (ad 20 0)] (va_up s 20 v) := fun C hC => bX9_readLine_114 hC ⟨⟨b1_nar fl, b1_fits fl⟩, fun s2 q2 => by
  rw [stI_up] at q2
  subst q2
  have h2 := h.I (b1 fl) (k := 8) (by decide)
  exact ⟨_, eX9_takes (fun C hC => ⟨fun q => absurd q (mt_gt h2 ho), fun _ => ⟨rfl, rfl⟩⟩), fun q => absurd q (mt_gt h2 ho), fun _ => ⟨rfl, rfl⟩⟩⟩
theorem mv_70L {e : Nat × Nat} (h : MT v tl tb (.inl e)) (ho : okT tl (.inl e)) {x1 : Int32} (hx : ¬ x1 = 5) {bb : Bool} (hb : v.1 8 = b1 bb) (t0 : Int32) : ∀ C : ZC, Zok ad D ia C (d + 4) cX9_readLine 2 RX9 none → Z l ad D ia C none (va_up s 20 (setI v 8 (b1 bb))) 70 [(0, .ref (ad 20 0)), (1, .int x1)] [.int t0, .ref (ad 20 0)] (va_up s 20 v) := fun C hC => bX9_readLine_70 hC ⟨_, mv_needLt h ho _ _, fun _ => ⟨_, mv_needLt h ho _ _, by
  have z := mv_114L (l := l) (ad := ad) (D := D) (ia := ia) (d := d) (s := s) h ho x1 bb C hC
  rw [va_up_self, hb]
  cases bb with
  | false => exact ⟨fun q => absurd rfl q, fun _ => ⟨fun _ => z, fun q => absurd q hx⟩⟩
  | true => exact ⟨fun _ => z, fun q => absurd q (by decide)⟩⟩, fun q => absurd q hx⟩
theorem isB_fst {n : Nat} {a b c e : Int32} (h : isB tb t n a b c e = true) : tb t.2.1 = a := by
  unfold isB at h
  have h := (Bool.and_eq_true _ _ ▸ h).2
  exact of_decide_eq_true (Bool.and_eq_true _ _ ▸ h).1
theorem wf0 (h : wd tb t 0 = true) : tb t.2.1 = 98 := isB_fst (wd0 ▸ h)
theorem wf1 (h : wd tb t 1 = true) : tb t.2.1 = 103 := isB_fst (Bool.and_eq_true _ _ ▸ (wd1 ▸ h)).1
theorem wf2 (h : wd tb t 2 = true) : tb t.2.1 = 110 := isB_fst (Bool.and_eq_true _ _ ▸ (wd2 ▸ h)).1
theorem wf3 (h : wd tb t 3 = true) : tb t.2.1 = 108 := isB_fst (wd3 ▸ h)
theorem wf4 (h : wd tb t 4 = true) : tb t.2.1 = 109 := isB_fst (wd4 ▸ h)
theorem lnK0 (h : wd tb t 0 = true) : lnK tb t = 4 := by
  have e := wf0 h
  have n1 : ¬ wd tb t 1 = true := fun q => absurd (e.symm.trans (wf1 q)) (by decide)
  have n2 : ¬ wd tb t 2 = true := fun q => absurd (e.symm.trans (wf2 q)) (by decide)
  have n3 : ¬ wd tb t 3 = true := fun q => absurd (e.symm.trans (wf3 q)) (by decide)
  have n4 : ¬ wd tb t 4 = true := fun q => absurd (e.symm.trans (wf4 q)) (by decide)
  unfold lnK
  rw [if_neg n1, if_neg n2, if_neg n3, if_neg n4, if_pos h]
/-- the name's number is known: how a line begins -/
theorem mv_begin17 (h160 : tl ≤ 160) (ho : okT tl (.inr t)) (h : MT v tl tb (.inr t)) (c1 : t.1 = 1) {Y : ZS} (hz : ∀ C : ZC, Zok ad D ia C (d + 4) cX9_readLine 2 RX9 none → Z l ad D ia C none Y 17 [(0, .ref (ad 20 0))] [.int (lnK tb t)] (va_up s 20 v)) : Ev l ad D ia (d + 4) mX9_readLine [.ref (ad 20 0)] (va_up s 20 v) none Y :=
  eX9_readLine (fun C hC => ⟨fun q => absurd (by rw [va_up_self, h.2.2.1, c1]; rfl) q, fun _ => ⟨_, _, mv_lineNow (d := d + 1) h160 ho h, hz C hC⟩⟩)
theorem mv_readBad (ho : okT tl (.inr t)) (h : MT v tl tb (.inr t)) {bb : Bool} (hb : v.1 8 = b1 bb) : ∃ v2, (∀ C : ZC, Zok ad D ia C (d + 4) cX9_readLine 2 RX9 none → Z l ad D ia C none (va_up s 20 v2) 17 [(0, .ref (ad 20 0))] [.int (-4)] (va_up s 20 v)) ∧ MT v2 tl tb (.inl (2, t.2.1)) ∧ KQ v v2 := by
  obtain ⟨v1, e1, m1, f1⟩ := mv_needR (l := l) (ad := ad) (D := D) (ia := ia) (d := d + 3) (s := s) h 2
  have o1 : okT tl (.inl (2, t.2.1)) := ⟨Nat.le_of_ble_eq_true rfl, Nat.le_of_ble_eq_true rfl, Nat.le_trans ho.2.1 ho.2.2.1⟩
  have hb1 : v1.1 8 = b1 bb := by rw [f1.1 8 (by decide)]; exact hb
  have z := fun t0 C hC => mv_70L (l := l) (ad := ad) (D := D) (ia := ia) (d := d) (s := s) m1 o1 (x1 := -4) (by decide) hb1 t0 C hC
  exact ⟨setI v1 8 (b1 bb), fun C hC => bX9_readLine_17 hC ⟨fun _ => ⟨_, e1, fun q => absurd q (by decide), fun _ => ⟨fun _ => ⟨fun _ => z 0 C hC, fun _ => z 1 C hC⟩, fun q => absurd q (by decide)⟩⟩, fun q => absurd rfl q⟩, m1.I _ (by decide), f1.Q.tr (KQ.I _ _ (by decide))⟩
theorem rB_inl (e : Nat × Nat) : rB tl tb (.inl e) = .inl e := rfl
theorem rR_inl (e : Nat × Nat) : rR tl tb (.inl e) = .inl e := rfl
theorem rS_inl (e : Nat × Nat) : rS tl tb (.inl e) = .inl e := rfl
theorem mv_book17 (h160 : tl ≤ 160) (hby : ∀ j, j < tl → rng (tb j) 0 127) (ho : okT tl (.inr t)) (h : MT v tl tb (.inr t)) (hM : MD v L) (hL : okL L) : ∃ v2, (∀ C : ZC, Zok ad D ia C (d + 4) cX9_readLine 2 RX9 none → Z l ad D ia C none (va_up s 20 v2) 17 [(0, .ref (ad 20 0))] [.int 4] (va_up s 20 v)) ∧ MT v2 tl tb (nxt tl tb (lnB tl tb t L).1) ∧ KQ v v2 ∧ ((∃ w, nxt tl tb (lnB tl tb t L).1 = .inr w) → MD v2 (lnB tl tb t L).2) := by
  have m6 : (va_up s 20 v 20).1 6 = nI L.1 := by rw [va_up_self]; exact hM.1.1
  have m8 := hM.1.2.2
  have hL1 := hL.1
  unfold lnB
  by_cases c : L.1 < 8
  · rw [if_pos c]
    obtain ⟨v2, z2, t2, k2, p2⟩ := mv_tail (l := l) (ad := ad) (D := D) (ia := ia) (d := d) (s := s) h160 hby ho (x1 := 4) (fl := L.2.2.2) (R := rB tl tb) rB_inl (fun r => rB_ok) (P := fun a => MD a (L.1 + 1, L.2.1, pr (pr (pr L.2.2.1 0 L.1 (vO tb (bnd (nxt tl tb (.inr t)) (chN tb 0 7)))) 1 L.1 (vO tb (bnd (nxt tl tb (bnd (nxt tl tb (.inr t)) (chN tb 0 7))) (chN tb 0 9)))) 2 L.1 (bO (vO tb (bnd (nxt tl tb (bnd (nxt tl tb (bnd (nxt tl tb (.inr t)) (chN tb 0 7))) (chN tb 0 9))) (chN tb 0 9)))), L.2.2.2)) (fun a b ha hf => ha.fm hf) h (fun v1 u eu hm hf => by
      rw [setI_id m8] at hf
      rw [eu]
      exact mv_lineB (d := d) h160 hby (by rw [← eu]; exact nxt_ok ho) hm (hM.fm hf) c hL.2)
    refine ⟨v2, fun C hC => bX9_readLine_17 hC ⟨fun q => absurd q (by decide), fun _ => ⟨_, mv_need1 (by decide) _, fun q => absurd q (by decide), fun _ => ⟨fun q => absurd rfl q, fun _ => ⟨fun q => absurd (by rw [m6] at q; exact q) (nI_ge (a := L.1) (b := 8) c (by decide)), fun _ => bX9_readLine_70 hC ⟨_, mv_need1 (by decide) _, fun _ => ⟨_, mv_need1 (by decide) _, ?_⟩, fun q => absurd q (by decide)⟩⟩⟩⟩⟩, t2, k2, p2⟩
    have z := z2 C hC
    rw [va_up_self, m8]
    generalize L.2.2.2 = bb at z
    cases bb with
    | false => exact ⟨fun q => absurd rfl q, fun _ => ⟨fun _ => z, fun q => absurd q (by decide)⟩⟩
    | true => exact ⟨fun _ => z, fun q => absurd q (by decide)⟩
  · rw [if_neg c]
    have e8 : L.1 = 8 := by omega
    obtain ⟨v1, e1, m1, f1⟩ := mv_needR (l := l) (ad := ad) (D := D) (ia := ia) (d := d + 3) (s := s) h 5
    have o1 : okT tl (.inl (5, t.2.1)) := ⟨Nat.le_of_ble_eq_true rfl, Nat.le_of_ble_eq_true rfl, Nat.le_trans ho.2.1 ho.2.2.1⟩
    have hb1 : v1.1 8 = b1 L.2.2.2 := by rw [f1.1 8 (by decide)]; exact m8
    refine ⟨setI v1 8 (b1 L.2.2.2), fun C hC => bX9_readLine_17 hC ⟨fun q => absurd q (by decide), fun _ => ⟨_, mv_need1 (by decide) _, fun q => absurd q (by decide), fun _ => ⟨fun q => absurd rfl q, fun _ => ⟨fun _ => bX9_readLine_70 hC ⟨_, e1, fun _ => ⟨_, mv_need1 (by decide) _, ?_⟩, fun q => absurd q (by decide)⟩, fun q => absurd (by rw [m6, e8]; decide) q⟩⟩⟩⟩, m1.I _ (by decide), f1.Q.tr (KQ.I _ _ (by decide)), fun ⟨w, q⟩ => by injection q⟩
    have z := mv_114L (l := l) (ad := ad) (D := D) (ia := ia) (d := d) (s := s) m1 o1 4 L.2.2.2 C hC
    rw [va_up_self, hb1]
    generalize L.2.2.2 = bb at z
    cases bb with
    | false => exact ⟨fun q => absurd rfl q, fun _ => ⟨fun _ => z, fun q => absurd q (by decide)⟩⟩
    | true => exact ⟨fun _ => z, fun q => absurd q (by decide)⟩
theorem mv_reader17 (h160 : tl ≤ 160) (hby : ∀ j, j < tl → rng (tb j) 0 127) (ho : okT tl (.inr t)) (h : MT v tl tb (.inr t)) (hM : MD v L) (hL : okL L) {kd : Nat} (hk : kd < 4) : ∃ v2, (∀ C : ZC, Zok ad D ia C (d + 4) cX9_readLine 2 RX9 none → Z l ad D ia C none (va_up s 20 v2) 17 [(0, .ref (ad 20 0))] [.int (nI kd)] (va_up s 20 v)) ∧ MT v2 tl tb (nxt tl tb (lnR tl tb kd t L).1) ∧ KQ v v2 ∧ ((∃ w, nxt tl tb (lnR tl tb kd t L).1 = .inr w) → MD v2 (lnR tl tb kd t L).2) := by
  have m7 : (va_up s 20 v 20).1 7 = nI L.2.1 := by rw [va_up_self]; exact hM.1.2.1
  have m8 := hM.1.2.2
  have hL2 := hL.2
  have n4 : ¬ nI kd = 4 := fun q => by have := (nI_eq (a := kd) (b := 4) (by omega) (by omega)).mp q; omega
  have n5 : ¬ nI kd = 5 := fun q => by have := (nI_eq (a := kd) (b := 5) (by omega) (by omega)).mp q; omega
  have nn : ¬ nI kd = -4 := nI_n4 (by omega)
  unfold lnR
  by_cases c : L.2.1 < 4
  · rw [if_pos c]
    obtain ⟨v2, z2, t2, k2, p2⟩ := mv_tail (l := l) (ad := ad) (D := D) (ia := ia) (d := d) (s := s) h160 hby ho (x1 := nI kd) (fl := L.2.2.2) (R := rR tl tb) rR_inl (fun r => rR_ok) (P := fun a => MD a (L.1, L.2.1 + 1, pr (pr (pr (pr L.2.2.1 3 L.2.1 (nI kd)) 4 L.2.1 (bO (vO tb (bnd (nxt tl tb (.inr t)) (chN tb 0 9))))) 5 L.2.1 (vO tb (bnd (nxt tl tb (bnd (bnd (nxt tl tb (.inr t)) (chN tb 0 9)) (chB8 tb))) (chN tb 1 99)))) 6 L.2.1 0, L.2.2.2)) (fun a b ha hf => ha.fm hf) h (fun v1 u eu hm hf => by
      rw [setI_id m8] at hf
      rw [eu]
      exact mv_lineR (d := d) h160 hby (by rw [← eu]; exact nxt_ok ho) hm (hM.fm hf) hL.1 c hk)
    refine ⟨v2, fun C hC => bX9_readLine_17 hC ⟨fun q => absurd q nn, fun _ => ⟨_, mv_need1 (by decide) _, fun q => absurd q n5, fun _ => ⟨fun _ => ⟨fun q => absurd (by rw [m7] at q; exact q) (nI_ge (a := L.2.1) (b := 4) c (by decide)), fun _ => bX9_readLine_70 hC ⟨_, mv_need1 (by decide) _, fun _ => ⟨_, mv_need1 (by decide) _, ?_⟩, fun q => absurd q n5⟩⟩, fun q => absurd q n4⟩⟩⟩, t2, k2, p2⟩
    have z := z2 C hC
    rw [va_up_self, m8]
    generalize L.2.2.2 = bb at z
    cases bb with
    | false => exact ⟨fun q => absurd rfl q, fun _ => ⟨fun _ => z, fun q => absurd q n5⟩⟩
    | true => exact ⟨fun _ => z, fun q => absurd q (by decide)⟩
  · rw [if_neg c]
    have e8 : L.2.1 = 4 := by omega
    obtain ⟨v1, e1, m1, f1⟩ := mv_needR (l := l) (ad := ad) (D := D) (ia := ia) (d := d + 3) (s := s) h 5
    have o1 : okT tl (.inl (5, t.2.1)) := ⟨Nat.le_of_ble_eq_true rfl, Nat.le_of_ble_eq_true rfl, Nat.le_trans ho.2.1 ho.2.2.1⟩
    have hb1 : v1.1 8 = b1 L.2.2.2 := by rw [f1.1 8 (by decide)]; exact m8
    refine ⟨setI v1 8 (b1 L.2.2.2), fun C hC => bX9_readLine_17 hC ⟨fun q => absurd q nn, fun _ => ⟨_, mv_need1 (by decide) _, fun q => absurd q n5, fun _ => ⟨fun _ => ⟨fun _ => bX9_readLine_70 hC ⟨_, e1, fun _ => ⟨_, mv_need1 (by decide) _, ?_⟩, fun q => absurd q n5⟩, fun q => absurd (by rw [m7, e8]; decide) q⟩, fun q => absurd q n4⟩⟩⟩, m1.I _ (by decide), f1.Q.tr (KQ.I _ _ (by decide)), fun ⟨w, q⟩ => by injection q⟩
    have z := mv_114L (l := l) (ad := ad) (D := D) (ia := ia) (d := d) (s := s) m1 o1 (nI kd) L.2.2.2 C hC
    rw [va_up_self, hb1]
    generalize L.2.2.2 = bb at z
    cases bb with
    | false => exact ⟨fun q => absurd rfl q, fun _ => ⟨fun _ => z, fun q => absurd q n5⟩⟩
    | true => exact ⟨fun _ => z, fun q => absurd q (by decide)⟩
theorem mv_steps17 (h160 : tl ≤ 160) (hby : ∀ j, j < tl → rng (tb j) 0 127) (ho : okT tl (.inr t)) (h : MT v tl tb (.inr t)) (hM : MD v L) (hL : okL L) : ∃ v2, (∀ C : ZC, Zok ad D ia C (d + 4) cX9_readLine 2 RX9 none → Z l ad D ia C none (va_up s 20 v2) 17 [(0, .ref (ad 20 0))] [.int 5] (va_up s 20 v)) ∧ MT v2 tl tb (nxt tl tb (lnS tl tb t L).1) ∧ KQ v v2 ∧ ((∃ w, nxt tl tb (lnS tl tb t L).1 = .inr w) → MD v2 (lnS tl tb t L).2) := by
  have m8 := hM.1.2.2
  unfold lnS
  by_cases c : L.2.2.2 = false
  · rw [if_pos c]
    rw [c] at m8
    have hMs : MD (setI v 8 (b1 true)) (L.1, L.2.1, L.2.2.1, true) := by
      obtain ⟨⟨a6, a7, a8⟩, aN, aH, aI⟩ := hM
      refine ⟨⟨by rw [sI_n _ _ (by decide)]; exact a6, by rw [sI_n _ _ (by decide)]; exact a7, sI_s _ _ _⟩, aN, aH, ?_⟩
      rw [sI_n _ _ (by decide)]
      exact aI
    obtain ⟨v2, z2, t2, k2, p2⟩ := mv_tail (l := l) (ad := ad) (D := D) (ia := ia) (d := d) (s := s) h160 hby ho (x1 := 5) (fl := true) (R := rS tl tb) rS_inl (fun r => rS_ok) (P := fun a => MD a (L.1, L.2.1, pz L.2.2.1 0 (vO tb (bnd (nxt tl tb (.inr t)) (chN tb 0 7))), true)) (fun a b ha hf => ha.fm hf) h (fun v1 u eu hm hf => by
      rw [eu]
      exact mv_lineS (d := d) (L := (L.1, L.2.1, L.2.2.1, true)) h160 hby (by rw [← eu]; exact nxt_ok ho) hm (hMs.fm hf) hL.1 hL.2)
    refine ⟨v2, fun C hC => bX9_readLine_17 hC ⟨fun q => absurd q (by decide), fun _ => ⟨_, mv_need1 (by decide) _, fun _ => bX9_readLine_70 hC ⟨_, mv_need1 (by decide) _, fun q => absurd rfl q, fun _ => ⟨fun q => absurd (by rw [va_up_self, m8]; rfl) q, fun _ => ⟨_, mv_need1 (by decide) _, ?_⟩⟩⟩, fun q => absurd rfl q⟩⟩, t2, k2, p2⟩
    rw [va_up_self, m8]
    exact ⟨fun q => absurd rfl q, fun _ => ⟨fun q => absurd rfl q, fun _ => z2 C hC⟩⟩
  · rw [if_neg c]
    have ct : L.2.2.2 = true := by simpa using c
    rw [ct] at m8
    obtain ⟨v1, e1, m1, f1⟩ := mv_needR (l := l) (ad := ad) (D := D) (ia := ia) (d := d + 3) (s := s) h 4
    have o1 : okT tl (.inl (4, t.2.1)) := ⟨Nat.le_of_ble_eq_true rfl, Nat.le_of_ble_eq_true rfl, Nat.le_trans ho.2.1 ho.2.2.1⟩
    have hb1 : v1.1 8 = b1 true := by rw [f1.1 8 (by decide)]; exact m8
    refine ⟨setI v1 8 (b1 true), fun C hC => bX9_readLine_17 hC ⟨fun q => absurd q (by decide), fun _ => ⟨_, mv_need1 (by decide) _, fun _ => bX9_readLine_70 hC ⟨_, mv_need1 (by decide) _, fun q => absurd rfl q, fun _ => ⟨fun _ => ⟨_, e1, ?_⟩, fun q => absurd (by rw [va_up_self, m8] at q; exact q) (by decide)⟩⟩, fun q => absurd rfl q⟩⟩, m1.I _ (by decide), f1.Q.tr (KQ.I _ _ (by decide)), fun ⟨w, q⟩ => by injection q⟩
    rw [va_up_self, hb1]
    exact ⟨fun _ => mv_114L (l := l) (ad := ad) (D := D) (ia := ia) (d := d) (s := s) m1 o1 5 true C hC, fun q => absurd q (by decide)⟩
theorem mv_readLine (h160 : tl ≤ 160) (hby : ∀ j, j < tl → rng (tb j) 0 127) (ho : okT tl (.inr t)) (h : MT v tl tb (.inr t)) (hM : MD v L) (hL : okL L) : ∃ v2, Ev l ad D ia (d + 4) mX9_readLine [.ref (ad 20 0)] (va_up s 20 v) none (va_up s 20 v2) ∧ MT v2 tl tb (nxt tl tb (lnA tl tb t L).1) ∧ KQ v v2 ∧ ((∃ w, nxt tl tb (lnA tl tb t L).1 = .inr w) → MD v2 (lnA tl tb t L).2) := by
  have ht3 := ho.1
  obtain ⟨vX, zX, tX, kX⟩ := mv_readBad (l := l) (ad := ad) (D := D) (ia := ia) (d := d) (s := s) ho h hM.1.2.2
  unfold lnA
  by_cases c : t.1 = 1
  · rw [if_pos c]
    by_cases c0 : wd tb t 0 = true
    · rw [if_pos c0]
      have eK := lnK0 c0
      obtain ⟨v2, z2, t2, k2, p2⟩ := mv_book17 (l := l) (ad := ad) (D := D) (ia := ia) (d := d) (s := s) h160 hby ho h hM hL
      exact ⟨v2, mv_begin17 h160 ho h c (fun C hC => by rw [eK]; exact z2 C hC), t2, k2, p2⟩
    · rw [if_neg c0]
      by_cases c1 : wd tb t 1 = true
      · rw [if_pos c1]
        have eK : lnK tb t = 0 := by
          unfold lnK
          rw [if_pos c1]
        obtain ⟨v2, z2, t2, k2, p2⟩ := mv_reader17 (l := l) (ad := ad) (D := D) (ia := ia) (d := d) (s := s) h160 hby ho h hM hL (kd := 0) (by decide)
        exact ⟨v2, mv_begin17 h160 ho h c (fun C hC => by rw [eK]; exact z2 C hC), t2, k2, p2⟩
      · rw [if_neg c1]
        by_cases c2 : wd tb t 2 = true
        · rw [if_pos c2]
          have eK : lnK tb t = 1 := by
            unfold lnK
            rw [if_neg c1, if_pos c2]
          obtain ⟨v2, z2, t2, k2, p2⟩ := mv_reader17 (l := l) (ad := ad) (D := D) (ia := ia) (d := d) (s := s) h160 hby ho h hM hL (kd := 1) (by decide)
          exact ⟨v2, mv_begin17 h160 ho h c (fun C hC => by rw [eK]; exact z2 C hC), t2, k2, p2⟩
        · rw [if_neg c2]
          by_cases c3 : wd tb t 3 = true
          · rw [if_pos c3]
            have eK : lnK tb t = 2 := by
              unfold lnK
              rw [if_neg c1, if_neg c2, if_pos c3]
            obtain ⟨v2, z2, t2, k2, p2⟩ := mv_reader17 (l := l) (ad := ad) (D := D) (ia := ia) (d := d) (s := s) h160 hby ho h hM hL (kd := 2) (by decide)
            exact ⟨v2, mv_begin17 h160 ho h c (fun C hC => by rw [eK]; exact z2 C hC), t2, k2, p2⟩
          · rw [if_neg c3]
            by_cases c4 : wd tb t 4 = true
            · rw [if_pos c4]
              have eK : lnK tb t = 3 := by
                unfold lnK
                rw [if_neg c1, if_neg c2, if_neg c3, if_pos c4]
              obtain ⟨v2, z2, t2, k2, p2⟩ := mv_reader17 (l := l) (ad := ad) (D := D) (ia := ia) (d := d) (s := s) h160 hby ho h hM hL (kd := 3) (by decide)
              exact ⟨v2, mv_begin17 h160 ho h c (fun C hC => by rw [eK]; exact z2 C hC), t2, k2, p2⟩
            · rw [if_neg c4]
              by_cases c5 : wd tb t 5 = true
              · rw [if_pos c5]
                have eK : lnK tb t = 5 := by
                  unfold lnK
                  rw [if_neg c1, if_neg c2, if_neg c3, if_neg c4, if_neg c0, if_pos c5]
                obtain ⟨v2, z2, t2, k2, p2⟩ := mv_steps17 (l := l) (ad := ad) (D := D) (ia := ia) (d := d) (s := s) h160 hby ho h hM hL
                exact ⟨v2, mv_begin17 h160 ho h c (fun C hC => by rw [eK]; exact z2 C hC), t2, k2, p2⟩
              · rw [if_neg c5]
                have eK : lnK tb t = -4 := by
                  unfold lnK
                  rw [if_neg c1, if_neg c2, if_neg c3, if_neg c4, if_neg c0, if_neg c5]
                exact ⟨vX, mv_begin17 h160 ho h c (fun C hC => by rw [eK]; exact zX C hC), tX, kX, fun ⟨w, q⟩ => by injection q⟩
  · rw [if_neg c]
    refine ⟨vX, eX9_readLine (fun C hC => ⟨fun _ => zX C hC, fun q => absurd ((nI_eq (a := t.1) (b := 1) (by omega) (by omega)).mp (by rw [va_up_self, h.2.2.1] at q; exact q)) c⟩), tX, kX, fun ⟨w, q⟩ => by injection q⟩
end TXP
