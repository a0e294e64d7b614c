theorem setA_n (v : OV) {k j : Nat} (g : Nat → Int32) (h : j ≠ k) : (setA v k g).2.2 j = v.2.2 j := va_up_ne v.2.2 g h
def foC : Option Nat → Int32
  | none => -4
  | some k => nI (10 * (k / 4) + k % 4)
def foM : Option Nat → Int32
  | none => -4
  | some k => nI k
def asX (y : Int32) (t : Option Nat × Nat) : Int32 := match t.1 with
  | none => -4
  | some k => if y = 0 then nI (10 * (k / 4) + k % 4) else nI t.2
section ASK
variable {l : Launch} {ad : ZA} {D : va_G} {ia : Nat → ClassId} {d nb nr r b o o1 sn : Nat} {s : ZS} {p : PS} {f m w : Int32} {sa : Nat → Nat → Int32}
/-- the values of place k, by the number of the possible height -/
def gK (p : PS) (b : Nat) (B : Nat → Bool) (k c : Nat) : Int32 := (itp (k / 4) (pr p 1 b (nI (tbl B 10 c))) (k % 4)).1
theorem gK_pc {p : PS} {b : Nat} {B : Nat → Bool} {n r h : Nat} (hr : r < 4) (hh : h < 10) (hB : B h = true) : gK p b B (4 * n + r) (pc B h) = (itp n (pr p 1 b (nI h)) r).1 := by
  unfold gK
  rw [tbl_pc hB 10 hh, show (4 * n + r) / 4 = n by omega, show (4 * n + r) % 4 = r by omega]
def wK (p : PS) (b : Nat) (B : Nat → Bool) (k : Nat) : Nat := mo (gK p b B k) (pc B 10)
theorem ev_askL (hp : PI nb nr p) {pos : Int32} {B : Nat → Bool} (hpos : ∀ i, i < 10 → bt pos i = B i) (hb : b < nb) (hH1 : HQ (s 1) nb nr p) (y : Int32) : ∀ (k n : Nat) (v : OV) (fo : Option Nat) (fw : Nat), n + k = 21 → (∀ q, fo = some q → q < 84) → fw ≤ 10 → (∀ j, j < 10 → B j = true → OT v nr (pr p 1 b (nI j)) j 21 0) → ∃ v2, ∀ C : ZC, Zok ad D ia C (d + 2) cX8_ask 9 RX8 (some .int) → Z l ad D ia C (some (.int (asX y (asS (wK p b B) nr (84 - 4 * n) (4 * n) fo fw)))) (va_up s 19 v2) 58 [(0, .ref (ad 0 0)), (2, .int y), (3, .int pos), (4, .int (foC fo)), (5, .int (nI fw)), (6, .int (nI n))] [] (va_up s 19 v) := by
  have h4 := hp.1.2
  have h8 := hp.1.1
  have hr1 : ∀ v : OV, (va_up s 19 v 1).1 4 = nI nr := fun v => by
    obtain ⟨f, w, hH⟩ := hH1
    rw [va_up_ne _ _ (by decide), hH.n4]
  have hpc := pc_le B 10
  intro k
  induction k with
  | zero =>
    intro n v fo fw hn hfo hf hO
    have e : n = 21 := by omega
    subst e
    refine ⟨v, fun C hC => bX8_ask_58 hC ⟨fun _ => ⟨fun h => ⟨?_, rfl⟩, fun h => ⟨fun h2 => ⟨?_, rfl⟩, fun h2 => ⟨?_, rfl⟩⟩⟩, fun h => absurd (by decide) h⟩⟩
    · cases fo with
      | none => rfl
      | some k =>
        exact absurd h (nI_n4 (by
          have := hfo k rfl
          omega))
    · cases fo with
      | none => exact absurd rfl h
      | some k =>
        show some (Value.int (if y = 0 then nI (10 * (k / 4) + k % 4) else nI fw)) = _
        rw [if_neg h2]
    · cases fo with
      | none => exact absurd rfl h
      | some k =>
        show some (Value.int (if y = 0 then nI (10 * (k / 4) + k % 4) else nI fw)) = _
        rw [if_pos h2]
        rfl
  | succ k ih =>
    intro n v fo fw hn hfo hf hO
    have inner : ∀ (c r : Nat) (v : OV) (fo : Option Nat) (fw : Nat), r + c = nr → (∀ q, fo = some q → q < 84) → fw ≤ 10 → (∀ j, j < 10 → B j = true → OT v nr (pr p 1 b (nI j)) j 21 0) → ∃ v2, ∀ C : ZC, Zok ad D ia C (d + 2) cX8_ask 9 RX8 (some .int) → Z l ad D ia C (some (.int (asX y (asS (wK p b B) nr (84 - (4 * n + r)) (4 * n + r) fo fw)))) (va_up s 19 v2) 68 [(0, .ref (ad 0 0)), (2, .int y), (3, .int pos), (4, .int (foC fo)), (5, .int (nI fw)), (6, .int (nI n)), (7, .int (nI r))] [] (va_up s 19 v) := by
      intro c
      induction c with
      | zero =>
        intro r v fo fw hr hfo hf hO
        obtain ⟨v2, hz⟩ := ih (n + 1) v fo fw (by omega) hfo hf hO
        have es := asS_skip (wK p b B) nr (4 - r) (84 - 4 * (n + 1)) (4 * n + r) fo fw (fun i hi => by omega)
        rw [show 84 - 4 * (n + 1) + (4 - r) = 84 - (4 * n + r) by omega, show 4 * n + r + (4 - r) = 4 * (n + 1) by omega] at es
        rw [es]
        refine ⟨v2, fun C hC => bX8_ask_68 hC ⟨fun _ => ?_, fun h => ?_⟩⟩
        · rw [nI_1]
          exact hz C hC
        · rw [hr1] at h
          exact absurd (nI_le (by omega) (by omega)) h
      | succ c ih2 =>
        intro r v fo fw hr hfo hf hO
        obtain ⟨v1, hk1, hml⟩ := ev_mostLeft (l := l) (ad := ad) (D := D) (ia := ia) (d := d) (s := s) hp hpos hb (n := n) (by omega) (r := r) (by omega) (g := gK p b B (4 * n + r)) (fun h a c => gK_pc (by omega) a c) v hO
        have hO1 : ∀ j, j < 10 → B j = true → OT v1 nr (pr p 1 b (nI j)) j 21 0 := fun j a c n2 r2 a1 a2 => by
          rw [hk1 _ (by omega)]
          exact hO j a c n2 r2 a1 a2
        have hwl : wK p b B (4 * n + r) ≤ 10 := Nat.le_trans (mo_le _ _) hpc
        have hnl : ¬ (va_up s 19 v 1).1 4 ≤ nI r := by
          rw [hr1]
          exact nI_ge (by omega) (by omega)
        have e84 : 84 - (4 * n + r) = (84 - (4 * n + (r + 1))) + 1 := by omega
        by_cases c1 : wK p b B (4 * n + r) < fw
        · obtain ⟨v2, hz⟩ := ih2 (r + 1) v1 (some (4 * n + r)) (wK p b B (4 * n + r)) (by omega) (fun q e => by injection e; omega) hwl hO1
          have es : asS (wK p b B) nr (84 - (4 * n + r)) (4 * n + r) fo fw = asS (wK p b B) nr (84 - (4 * n + (r + 1))) (4 * n + (r + 1)) (some (4 * n + r)) (wK p b B (4 * n + r)) := by
            rw [e84]
            exact if_pos ⟨by omega, c1⟩
          rw [es]
          refine ⟨v2, fun C hC => bX8_ask_68 hC ⟨fun h => absurd h hnl, fun _ => ⟨_, _, hml, fun h => ?_, fun _ => ?_⟩⟩⟩
          · exact absurd h (nI_ge c1 (by omega))
          · have e10 : 10 * nI n + nI r = foC (some (4 * n + r)) := by
              show nI 10 * nI n + nI r = nI (10 * ((4 * n + r) / 4) + (4 * n + r) % 4)
              rw [nI_mul, nI_add]
              congr 1
              omega
            rw [e10, nI_1]
            exact hz C hC
        · obtain ⟨v2, hz⟩ := ih2 (r + 1) v1 fo fw (by omega) hfo hf hO1
          have es : asS (wK p b B) nr (84 - (4 * n + r)) (4 * n + r) fo fw = asS (wK p b B) nr (84 - (4 * n + (r + 1))) (4 * n + (r + 1)) fo fw := by
            rw [e84]
            exact if_neg (fun q => c1 q.2)
          rw [es]
          refine ⟨v2, fun C hC => bX8_ask_68 hC ⟨fun h => absurd h hnl, fun _ => ⟨_, _, hml, fun _ => ?_, fun h => ?_⟩⟩⟩
          · rw [nI_1]
            exact hz C hC
          · have : wK p b B (4 * n + r) = mo (gK p b B (4 * n + r)) (pc B 10) := rfl
            exact absurd (nI_le (by omega) (by omega)) h
    obtain ⟨v2, hz⟩ := inner nr 0 v fo fw (by omega) hfo hf hO
    exact ⟨v2, fun C hC => bX8_ask_58 hC ⟨fun h => absurd h (nI_nlt (a := 20) (b := n) (by omega) (by omega)), fun _ => hz C hC⟩⟩
/-- the reference's rows of the possible heights below h -/
def BT (v : OV) (nr : Nat) (p : PS) (b : Nat) (B : Nat → Bool) (h : Nat) : Prop := ∀ j n r, j < h → B j = true → n ≤ 20 → r < nr → v.2.2 28 (84 * pc B j + (4 * n + r)) = (itp n (pr p 1 b (nI j)) r).1
theorem KM.A28 (v : OV) (g : Nat → Int32) : KM v (setA v 28 g) := ⟨fun _ _ => rfl, fun k hk => va_up_ne _ _ (by omega)⟩
theorem ix84 (c k : Nat) : 84 * nI c + nI k = nI (84 * c + k) := by
  show nI 84 * nI c + nI k = _
  rw [nI_mul, nI_add]
theorem mv_ask1 {s0 : ZS} {nb nr b : Nat} {p : PS} {tl : Nat} {tb : Nat → Int32} {flt : Int32} {sn : Nat} {sa : Nat → Nat → Int32} {K : KT} {H : HT} {tn : Int32} (hM : MR (s0 20) nb nr p tl tb flt sn sa K H tn) (hB : SB nr sn sa) (hb : b < nb) (hp : PI nb nr p) (y : Int32) {B : Nat → Bool} (eB : ∀ h, B h = ag (pr p 1 b (nI h)) sa sn 0) : ∀ (k h : Nat) (u : OV), h + k = 10 → KM (s0 20) u → BT u nr p b B h → ∃ u2, KM (s0 20) u2 ∧ BT u2 nr p b B 10 ∧ ∀ (C : ZC) (X : Option Value) (Y : ZS), Zok ad D ia C (d + 6) cX9_ask 11 RX9 (some .int) → Z l ad D ia C X Y 97 [(0, .ref (ad 20 0)), (2, .int y), (3, .int (nI (pc B 10))), (4, .int (nI (pc B 10))), (5, .int (-4)), (6, .int 0)] [] (va_up s 20 u2) → Z l ad D ia C X Y 22 [(0, .ref (ad 20 0)), (1, .int (nI b)), (2, .int y), (3, .int (nI (pc B h))), (4, .int (nI h))] [] (va_up s 20 u) := by
  have h8 := hp.1.1
  have h4 := hp.1.2
  intro k
  induction k with
  | zero =>
    intro h u hh hu hT
    have e : h = 10 := by omega
    subst e
    exact ⟨u, hu, hT, fun C X Y hC hz => bX9_ask_22 hC ⟨fun _ => hz, fun h => absurd (by decide) h⟩⟩
  | succ k ih =>
    intro h u hh hu hT
    have hnl : ¬ (9 : Int32) < nI h := nI_nlt (a := 9) (b := h) (by omega) (by omega)
    have hpc := pc_le B h
    obtain ⟨v1, e1, hk1, hW, h28⟩ := mv_isSo (l := l) (ad := ad) (D := D) (ia := ia) (d := d) (s := va_up s 20 u) (p2 := pr p 1 b (nI h)) (ix := 3 * b + 1) (x := nI h) hM (by rw [va_up_self]; exact hu) hB h8 (PI_h hp ⟨h, by omega, rfl⟩) (by omega) (fun a ha => ha.bw h8 h4 (c := 1) (by decide) hb (nI h))
    rw [up_up, ← eB] at e1
    rw [va_up_self] at h28
    have ei : 3 * nI b + 1 = nI (3 * b + 1) := ixB b 1
    have hT1 : BT v1 nr p b B h := fun j n r a1 a2 a3 a4 => by
      rw [h28]
      exact hT j n r a1 a2 a3 a4
    cases hBh : B h
    · rw [hBh] at e1
      have epc := pc_f hBh
      obtain ⟨u2, hk2, hT2, hz⟩ := ih (h + 1) v1 (by omega) hk1 (fun j n r a1 a2 a3 a4 => hT1 j n r (by
        by_cases e : j = h
        · subst e
          rw [hBh] at a2
          exact absurd a2 (by decide)
        · omega) a2 a3 a4)
      rw [epc] at hz
      refine ⟨u2, hk2, hT2, fun C X Y hC hz0 => bX9_ask_22 hC ⟨fun h => absurd h hnl, fun _ => ⟨0, va_up s 20 v1, by rw [ei]; exact e1, fun _ => ?_, fun h => absurd rfl h⟩⟩⟩
      rw [nI_1]
      exact hz C X Y hC hz0
    · rw [hBh] at e1
      have epc := pc_t hBh
      have cp : ∀ (c i : Nat) (v : OV), i + c = 84 → KM (s0 20) v → BT v nr p b B h → v.2.2 27 = v1.2.2 27 → (∀ j, j < i → v.2.2 28 (84 * pc B h + j) = v1.2.2 27 j) → ∃ v2, KM (s0 20) v2 ∧ BT v2 nr p b B (h + 1) ∧ ∀ (C : ZC) (X : Option Value) (Y : ZS), Zok ad D ia C (d + 6) cX9_ask 11 RX9 (some .int) → Z l ad D ia C X Y 22 [(0, .ref (ad 20 0)), (1, .int (nI b)), (2, .int y), (3, .int (nI (pc B h + 1))), (4, .int (nI (h + 1)))] [] (va_up s 20 v2) → Z l ad D ia C X Y 46 [(0, .ref (ad 20 0)), (1, .int (nI b)), (2, .int y), (3, .int (nI (pc B h))), (4, .int (nI h)), (5, .int (nI i))] [] (va_up s 20 v) := by
        intro c
        induction c with
        | zero =>
          intro i v hi hk hTv h27 hj
          refine ⟨v, hk, fun j n r a1 a2 a3 a4 => ?_, fun C X Y hC hz => bX9_ask_46 hC ⟨fun _ => ?_, fun h => absurd (nI_le (a := 84) (b := i) (by omega) (by omega)) h⟩⟩
          · by_cases e : j = h
            · subst e
              rw [hj _ (by omega)]
              exact hW n r a4 (by omega)
            · exact hTv j n r (by omega) a2 a3 a4
          · rw [nI_1, nI_1]
            exact hz
        | succ c ih2 =>
          intro i v hi hk hTv h27 hj
          obtain ⟨v2, hk2, hT2, hz⟩ := ih2 (i + 1) (setA v 28 (upd (v.2.2 28) (84 * pc B h + i) (v1.2.2 27 i))) (by omega) (hk.tr (KM.A28 v _)) (fun j n r a1 a2 a3 a4 => by
            have hm := pc_mono a2 h a1
            rw [setA_s, upd_ne _ _ (by omega)]
            exact hTv j n r a1 a2 a3 a4) ((setA_n v _ (show (27 : Nat) ≠ 28 by decide)).trans h27) (fun j hj2 => by
            rw [setA_s]
            by_cases e : j = i
            · subst e
              rw [upd_self]
            · rw [upd_ne _ _ (by omega)]
              exact hj j (by omega))
          refine ⟨v2, hk2, hT2, fun C X Y hC hz0 => bX9_ask_46 hC ⟨fun h => absurd h (nI_ge (a := i) (b := 84) (by omega) (by omega)), fun _ => ⟨vp_in_nI (by omega) (by omega), ?_, fun s1 e1 => ?_⟩⟩⟩
          · rw [ix84]
            exact vp_in_nI (by omega) (by omega)
          · rw [va_up_self, ix84, nI_clamp (by omega), nI_clamp (by omega), h27, stA_up] at e1
            subst e1
            rw [nI_1]
            exact hz C X Y hC hz0
      obtain ⟨v2, hk2, hT2, hz2⟩ := cp 84 0 v1 (by omega) hk1 hT1 rfl (fun j hj => absurd hj (by omega))
      obtain ⟨u2, hk3, hT3, hz⟩ := ih (h + 1) v2 (by omega) hk2 hT2
      rw [epc] at hz
      exact ⟨u2, hk3, hT3, fun C X Y hC hz0 => bX9_ask_22 hC ⟨fun h => absurd h hnl, fun _ => ⟨1, va_up s 20 v1, by rw [ei]; exact e1, fun h => absurd h (by decide), fun _ => hz2 C X Y hC (hz C X Y hC hz0)⟩⟩⟩
/-- the worst of place k -/
theorem mv_ask2 {u : OV} {m k : Nat} {X : Option Value} {Y : ZS} {x2 x4 x5 : Int32} {C : ZC} (hm : m ≤ 10) (hk : k < 84) (hC : Zok ad D ia C (d + 6) cX9_ask 11 RX9 (some .int)) (hz : Z l ad D ia C X Y 110 [(0, .ref (ad 20 0)), (2, .int x2), (3, .int (nI m)), (4, .int x4), (5, .int x5), (6, .int (nI k)), (7, .int (nI (ws (fun c => u.2.2 28 (84 * c + k)) m m))), (8, .int (nI m))] [] (va_up s 20 u)) : ∀ (c a : Nat), a + c = m → Z l ad D ia C X Y 110 [(0, .ref (ad 20 0)), (2, .int x2), (3, .int (nI m)), (4, .int x4), (5, .int x5), (6, .int (nI k)), (7, .int (nI (ws (fun c => u.2.2 28 (84 * c + k)) m a))), (8, .int (nI a))] [] (va_up s 20 u) := by
  intro c
  induction c with
  | zero =>
    intro a ha
    have e : a = m := by omega
    subst e
    exact hz
  | succ c ih =>
    intro a ha
    have hw := ws_le (fun c => u.2.2 28 (84 * c + k)) m a
    have ha2 := al_le (fun c => u.2.2 28 (84 * c + k)) (u.2.2 28 (84 * a + k)) m
    have inner : ∀ (e j : Nat), j + e = m → Z l ad D ia C X Y 122 [(0, .ref (ad 20 0)), (2, .int x2), (3, .int (nI m)), (4, .int x4), (5, .int x5), (6, .int (nI k)), (7, .int (nI (ws (fun c => u.2.2 28 (84 * c + k)) m a))), (8, .int (nI a)), (9, .int (nI (al (fun c => u.2.2 28 (84 * c + k)) (u.2.2 28 (84 * a + k)) j))), (10, .int (nI j))] [] (va_up s 20 u) := by
      intro e
      induction e with
      | zero =>
        intro j hj
        have ej : j = m := by omega
        subst ej
        have ih := ih (a + 1) (by omega)
        refine bX9_ask_122 hC ⟨fun _ => ⟨fun h => ?_, fun h => ?_⟩, fun h => absurd (nI_le (Nat.le_refl _) (by omega)) h⟩
        · have e2 : ws (fun c => u.2.2 28 (84 * c + k)) j (a + 1) = ws (fun c => u.2.2 28 (84 * c + k)) j a := by
            show max (ws (fun c => u.2.2 28 (84 * c + k)) j a) (al (fun c => u.2.2 28 (84 * c + k)) (u.2.2 28 (84 * a + k)) j) = _
            have : ¬ ws (fun c => u.2.2 28 (84 * c + k)) j a < al (fun c => u.2.2 28 (84 * c + k)) (u.2.2 28 (84 * a + k)) j := fun q => nI_ge q (by omega) h
            omega
          rw [e2] at ih
          rw [nI_1]
          exact ih
        · have e2 : ws (fun c => u.2.2 28 (84 * c + k)) j (a + 1) = al (fun c => u.2.2 28 (84 * c + k)) (u.2.2 28 (84 * a + k)) j := by
            show max (ws (fun c => u.2.2 28 (84 * c + k)) j a) (al (fun c => u.2.2 28 (84 * c + k)) (u.2.2 28 (84 * a + k)) j) = _
            have : ¬ al (fun c => u.2.2 28 (84 * c + k)) (u.2.2 28 (84 * a + k)) j ≤ ws (fun c => u.2.2 28 (84 * c + k)) j a := fun q => h (nI_le q (by omega))
            omega
          rw [e2] at ih
          rw [nI_1]
          exact ih
      | succ e ih2 =>
        intro j hj
        have ih2 := ih2 (j + 1) (by omega)
        have hf0 := mv_flag (l := l) (ad := ad) (D := D) (ia := ia) (d := d + 5) (s := va_up s 20 u) 0
        have hf1 := mv_flag (l := l) (ad := ad) (D := D) (ia := ia) (d := d + 5) (s := va_up s 20 u) 1
        refine bX9_ask_122 hC ⟨fun h => absurd h (nI_ge (by omega) (by omega)), fun _ => ?_⟩
        rw [ix84, ix84, nI_clamp (show 84 * a + k < 2 ^ 31 by omega), nI_clamp (show 84 * j + k < 2 ^ 31 by omega), va_up_self]
        have ea : ∀ t : Nat, (if u.2.2 28 (84 * a + k) = u.2.2 28 (84 * j + k) then 1 else 0) = t → al (fun c => u.2.2 28 (84 * c + k)) (u.2.2 28 (84 * a + k)) (j + 1) = al (fun c => u.2.2 28 (84 * c + k)) (u.2.2 28 (84 * a + k)) j + t := fun t ht => by rw [← ht]; rfl
        refine ⟨vp_in_nI (by omega) (by omega), vp_in_nI (by omega) (by omega), fun h => ⟨_, _, hf0, ?_⟩, fun h => ⟨_, _, hf1, ?_⟩⟩
        · rw [ea 0 (if_neg h)] at ih2
          rw [nI_1, if_pos rfl, Int32.add_zero]
          exact ih2
        · rw [ea 1 (if_pos h)] at ih2
          rw [nI_1, if_neg (by decide), nI_1]
          exact ih2
    have := inner m 0 (by omega)
    exact bX9_ask_110 hC ⟨fun h => absurd h (nI_ge (by omega) (by omega)), fun _ => this⟩
theorem mv_ask3 {u : OV} {B : Nat → Bool} (hp : PI nb nr p) (hr : u.1 4 = nI nr) (hT : BT u nr p b B 10) (y : Int32) {C : ZC} (hC : Zok ad D ia C (d + 6) cX9_ask 11 RX9 (some .int)) : ∀ (c k : Nat) (fo : Option Nat) (fw : Nat), k + c = 84 → (∀ q, fo = some q → q < 84) → fw ≤ 10 → Z l ad D ia C (some (.int (asX y (asS (wK p b B) nr c k fo fw)))) (va_up s 20 u) 97 [(0, .ref (ad 20 0)), (2, .int y), (3, .int (nI (pc B 10))), (4, .int (nI fw)), (5, .int (foM fo)), (6, .int (nI k))] [] (va_up s 20 u) := by
  have h4 := hp.1.2
  have hpc := pc_le B 10
  intro c
  induction c with
  | zero =>
    intro k fo fw hk hfo hf
    refine bX9_ask_97 hC ⟨fun _ => ⟨fun h => ⟨fun h2 => ⟨?_, rfl⟩, fun h2 => ⟨?_, rfl⟩⟩, fun h => ⟨?_, rfl⟩⟩, fun h => absurd (nI_le (a := 84) (b := k) (by omega) (by omega)) h⟩
    · cases fo with
      | none => exact absurd rfl h
      | some q =>
        show some (Value.int (if y = 0 then nI (10 * (q / 4) + q % 4) else nI fw)) = _
        rw [if_neg h2]
    · cases fo with
      | none => exact absurd rfl h
      | some q =>
        have hq := hfo q rfl
        show some (Value.int (if y = 0 then nI (10 * (q / 4) + q % 4) else nI fw)) = some (Value.int (10 * (nI q / 4) + rm32 (nI q) 4))
        have e1 : nI q / 4 = nI (q / 4) := pk_div (d := 4) (by omega) (by omega) (by omega)
        have e2 : rm32 (nI q) 4 = nI (q % 4) := rm_nI (c := 4) (by omega) (by omega) (by omega)
        rw [if_pos h2, e1, e2]
        show _ = some (Value.int (nI 10 * nI (q / 4) + nI (q % 4)))
        rw [nI_mul, nI_add]
    · cases fo with
      | none => rfl
      | some q =>
        have hq := hfo q rfl
        exact absurd h (nI_n4 (by omega))
  | succ c ih =>
    intro k fo fw hk hfo hf
    have hw := ws_le (fun c => u.2.2 28 (84 * c + k)) (pc B 10) (pc B 10)
    have e2 : rm32 (nI k) 4 = nI (k % 4) := rm_nI (c := 4) (by omega) (by omega) (by omega)
    refine bX9_ask_97 hC ⟨fun h => absurd h (nI_ge (a := k) (b := 84) (by omega) (by omega)), fun _ => mv_ask2 (k := k) (m := pc B 10) hpc (by omega) hC ?_ (pc B 10) 0 (by omega)⟩
    refine bX9_ask_110 hC ⟨fun _ => ?_, fun h => absurd (nI_le (Nat.le_refl _) (by omega)) h⟩
    rw [va_up_self, hr, e2, nI_1]
    by_cases c1 : k % 4 < nr
    · have ewk : ws (fun c => u.2.2 28 (84 * c + k)) (pc B 10) (pc B 10) = wK p b B k := by
        unfold wK
        rw [mo_ws]
        apply ws_congr _ _ _ (Nat.le_refl _)
        intro c hc
        obtain ⟨j, h1, h2, h3⟩ := pc_inv 10 c hc
        show u.2.2 28 (84 * c + k) = gK p b B k c
        have e3 := hT j (k / 4) (k % 4) h1 h2 (by omega) c1
        have e5 := gK_pc (p := p) (b := b) (B := B) (n := k / 4) (r := k % 4) (h := j) (by omega) h1 h2
        rw [show 4 * (k / 4) + k % 4 = k by omega, h3] at e3 e5
        rw [e3, e5]
      rw [ewk] at hw ⊢
      refine ⟨fun h => absurd h (nI_ge c1 (by omega)), fun _ => ⟨fun h => ?_, fun h => ?_⟩⟩
      · have hn : ¬ wK p b B k < fw := fun q => nI_ge q (by omega) h
        have es : asS (wK p b B) nr (c + 1) k fo fw = asS (wK p b B) nr c (k + 1) fo fw := if_neg (fun q => hn q.2)
        rw [es]
        exact ih (k + 1) fo fw (by omega) hfo hf
      · have hn : ¬ fw ≤ wK p b B k := fun q => h (nI_le q (by omega))
        have es : asS (wK p b B) nr (c + 1) k fo fw = asS (wK p b B) nr c (k + 1) (some k) (wK p b B k) := if_pos ⟨c1, by omega⟩
        rw [es]
        exact ih (k + 1) (some k) (wK p b B k) (by omega) (fun q e => by injection e; omega) (by omega)
    · have es : asS (wK p b B) nr (c + 1) k fo fw = asS (wK p b B) nr c (k + 1) fo fw := if_neg (fun q => c1 q.1)
      rw [es]
      exact ⟨fun _ => ih (k + 1) fo fw (by omega) hfo hf, fun h => absurd (nI_le (by omega) (by omega)) h⟩
theorem op_ask (hR : RR s) (x y : Int32) : Op l ad D ia s mX8_ask mX9_ask [.int x, .int y] := by
  obtain ⟨nb, nr, p, tl, tb, flt, sn, sa, K, H, tn, hG, hC, hM⟩ := hR
  have hbad : RR s := ⟨nb, nr, p, tl, tb, flt, sn, sa, K, H, tn, hG, hC, hM⟩
  have hp := hG.1.1
  have h8 := hp.1.1
  have h4 := hp.1.2
  have hB := hG.2.2.1
  obtain ⟨f, w, hH⟩ := hC.1
  have hA := ev_hasB (l := l) (ad := ad) (D := D) (ia := ia) (d := 8) (s := s) (o := 1) rfl hH.n0 h8 x
  have hMA := fun s2 (h : (s2 20).1 3 = nI nb) => mv_isBook (l := l) (ad := ad) (D := D) (ia := ia) (d := 7) (s := s2) h h8 x
  have o2 := ev_out0 (l := l) (ad := ad) (D := D) (ia := ia) (d := 8) (s := s) (n := 1) y (y := 1) rfl (by decide)
  have i2 := fun s2 => mv_isPart (l := l) (ad := ad) (D := D) (ia := ia) (d := 7) (s := s2) y
  by_cases cx : inN x nb = true
  · rw [cx] at hA hMA
    by_cases cy : inN y 2 = true
    · rw [cy] at o2 i2
      obtain ⟨b, hb, rfl⟩ := inN_nI cx
      obtain ⟨u1, hz1⟩ := ev_heightsAS (l := l) (ad := ad) (D := D) (ia := ia) (d := 2) (s := s) hC.2.2.2.1 hB hb hC.1 hp
      generalize hBd : (fun h => ag (pr p 1 b (nI h)) sa sn 0) = B
      have eB : ∀ h, B h = ag (pr p 1 b (nI h)) sa sn 0 := fun h => by rw [← hBd]
      generalize hpo : agBits (fun v => pr p 1 b (nI v)) sa sn 10 0 0 = pos at hz1
      have hpos : ∀ i, i < 10 → bt pos i = B i := fun i hi => by
        rw [← hpo, ag10_bt _ _ _ (by omega), decide_eq_true hi, Bool.true_and, eB]
      have hbc : bitC pos = nI (pc B 10) := by
        rw [← hpo, ← hBd]
        exact bitC_ag _ _ _
      have hpc := pc_le B 10
      have hH1 : HQ (va_up s 2 u1 1) nb nr p := by rw [va_up_ne _ _ (by decide)]; exact hC.1
      obtain ⟨u2, y2, hO2, hz2⟩ := ev_foreL (l := l) (ad := ad) (D := D) (ia := ia) (d := 2) (s := s) hb hC.1 hp hpos 10 0 u1 (va_up s 2 u1 19) (by omega) (fun j hj => absurd hj (by omega))
      rw [up_id] at hz2
      have hH2 : HQ (va_up s 2 u2 1) nb nr p := by rw [va_up_ne _ _ (by decide)]; exact hC.1
      obtain ⟨v3, hz3⟩ := ev_askL (l := l) (ad := ad) (D := D) (ia := ia) (d := 7) (s := va_up s 2 u2) hp hpos hb hH2 y 21 0 y2 none (pc B 10) (by omega) (fun q e => by injection e) hpc hO2
      have h20 : va_up (va_up s 2 u2) 19 v3 20 = s 20 := by rw [va_up_ne _ _ (by decide), va_up_ne _ _ (by decide)]
      obtain ⟨w1, hk1, hT1, hz4⟩ := mv_ask1 (l := l) (ad := ad) (D := D) (ia := ia) (d := 3) (s := va_up (va_up s 2 u2) 19 v3) hM hB hb hp y eB 10 0 (va_up (va_up s 2 u2) 19 v3 20) (by omega) (KM.eq h20) (fun j n r hj => absurd hj (by omega))
      rw [up_id] at hz4
      have hr4 : w1.1 4 = nI nr := by rw [hk1.1 4 (by omega)]; exact hM.1.2
      refine ⟨.int (asX y (asS (wK p b B) nr 84 0 none (pc B 10))), _, _, eX8_ask (fun C hZ => ⟨_, _, hA, fun h => absurd h (by decide), fun _ => ⟨_, _, o2, fun _ => ⟨_, _, hz1, _, eX2_foresee (o1 := 1) rfl (o2 := 2) rfl (fun C2 hZ2 => hz2 C2 hZ2), _, _, ev_bitCount _, ?_⟩, fun h => absurd rfl h⟩⟩), eX9_ask (fun C hZ => ⟨_, _, hMA _ (by rw [h20]; exact hM.1.1), fun h => absurd h (by decide), fun _ => ⟨_, _, i2 _, fun _ => hz4 C _ _ hZ (mv_ask3 hp hr4 hT1 y hZ 84 0 none (pc B 10) (by omega) (fun q e => by injection e) hpc), fun h => absurd h (by decide)⟩⟩), RR_sc hG hC hM ((KC.up (o := 2) (v := u2) (by decide)).tr (KC.up (o := 19) (v := v3) (by decide))) hk1⟩
      rw [hbc]
      exact hz3 C hZ
    · rw [bool_f cy] at o2 i2
      exact ⟨.int (-1), _, _, eX8_ask (fun C hZ => ⟨_, _, hA, fun h => absurd h (by decide), fun _ => ⟨_, _, o2, fun h => absurd h (by decide), fun _ => ⟨rfl, rfl⟩⟩⟩), eX9_ask (fun C hZ => ⟨_, _, hMA _ hM.1.1, fun h => absurd h (by decide), fun _ => ⟨_, _, i2 _, fun h => absurd rfl h, fun _ => ⟨rfl, rfl⟩⟩⟩), hbad⟩
  · rw [bool_f cx] at hA hMA
    exact ⟨.int (-1), _, _, eX8_ask (fun C hZ => ⟨_, _, hA, fun _ => ⟨rfl, rfl⟩, fun h => absurd rfl h⟩), eX9_ask (fun C hZ => ⟨_, _, hMA _ hM.1.1, fun _ => ⟨rfl, rfl⟩, fun h => absurd rfl h⟩), hbad⟩
end ASK
