theorem up_cm {α : Type} (s : Nat → α) {o o2 : Nat} (h : o ≠ o2) (a b : α) : va_up (va_up s o a) o2 b = va_up (va_up s o2 b) o a := by
  funext j
  unfold va_up
  by_cases e1 : j = o
  · subst e1
    simp [h]
  · by_cases e2 : j = o2
    · subst e2
      simp [e1]
    · simp [e1, e2]
theorem setA_s (v : OV) (k : Nat) (g : Nat → Int32) : (setA v k g).2.2 k = g := va_up_self v.2.2 k g
theorem up_sw (s : ZS) (u w v : OV) : va_up (va_up (va_up s 2 u) 19 w) 2 v = va_up (va_up s 2 v) 19 w := by
  rw [up_cm _ (by decide), up_up]
theorem stA_up2 (s : ZS) (u w : OV) (k i : Nat) (x : Int32) : stA (va_up (va_up s 2 u) 19 w) 2 k i x = va_up (va_up s 2 (setA u k (upd (u.2.2 k) i x))) 19 w := by
  rw [up_cm s (show (2 : Nat) ≠ 19 by decide) u w, stA_up, up_cm s (show (19 : Nat) ≠ 2 by decide)]
theorem zis19 : ∀ h, h < 10 → zis 19 (10 + h) 0 84 := by
  unfold zis
  decide
/-- the outlook's row of a height, up to day n and reader r -/
def OT (v : OV) (nr : Nat) (p : PS) (h n r : Nat) : Prop := ∀ n2 r2, r2 < nr → (n2 < n ∨ (n2 = n ∧ r2 < r)) → v.2.2 (10 + h) (4 * n2 + r2) = enc (itp n2 p r2).1
theorem ix4r (n r : Nat) : nI n * 4 + nI r = nI (4 * n + r) := by
  show nI n * nI 4 + nI r = _
  rw [nI_mul, nI_add, Nat.mul_comm]
section ASC
variable {l : Launch} {ad : ZA} {D : va_G} {ia : Nat → ClassId} {d nb nr r b o o1 sn : Nat} {s : ZS} {p : PS} {f m w : Int32} {sa : Nat → Nat → Int32}
theorem ev_noteL (hp : PI nb nr p) {h : Nat} (hh : h < 10) : ∀ (k n : Nat) (u y : OV), n + k = 21 → HR u nb nr (days nr n (p, f, w)).1 (days nr n (p, f, w)).2.1 (days nr n (p, f, w)).2.2 → OT y nr p h n 0 → ∃ u2 y2, OT y2 nr p h 21 0 ∧ (∀ j, j ≠ 10 + h → y2.2.2 j = y.2.2 j) ∧ ∀ C : ZC, Zok ad D ia C (d + 5) cX2_note 4 RX2 none → Z l ad D ia C none (va_up (va_up s 2 u2) 19 y2) 2 [(0, .ref (ad 2 0)), (1, .ref (ad 19 ((10 + h) + 1))), (2, .int (nI n))] [] (va_up (va_up s 2 u) 19 y) := by
  have h4 := hp.1.2
  have h8 := hp.1.1
  intro k
  induction k with
  | zero =>
    intro n u y hn hH hO
    have e : n = 21 := by omega
    subst e
    exact ⟨u, y, hO, fun _ _ => rfl, fun C hC => bX2_note_2 (o0 := 2) rfl (zis19 h hh) hC ⟨fun _ => ⟨rfl, rfl⟩, fun h => absurd (by decide) h⟩⟩
  | succ k ih =>
    intro n u y hn hH hO
    have hpn := PI_days (nb := nb) (nr := nr) n (q := (p, f, w)) hp
    have inner : ∀ (c r : Nat) (y : OV), r + c = nr → OT y nr p h n r → ∃ u2 y2, OT y2 nr p h 21 0 ∧ (∀ j, j ≠ 10 + h → y2.2.2 j = y.2.2 j) ∧ ∀ C : ZC, Zok ad D ia C (d + 5) cX2_note 4 RX2 none → Z l ad D ia C none (va_up (va_up s 2 u2) 19 y2) 10 [(0, .ref (ad 2 0)), (1, .ref (ad 19 ((10 + h) + 1))), (2, .int (nI n)), (3, .int (nI r))] [] (va_up (va_up s 2 u) 19 y) := by
      intro c
      induction c with
      | zero =>
        intro r y hr hO
        have hHb : HR (va_up (va_up s 2 u) 19 y 2) nb nr (days nr n (p, f, w)).1 (days nr n (p, f, w)).2.1 (days nr n (p, f, w)).2.2 := by
          rw [va_up_ne _ _ (by decide), va_up_self]
          exact hH
        obtain ⟨v1, e1, hH1⟩ := ev_passDay (l := l) (ad := ad) (D := D) (ia := ia) (d := d) (o := 2) rfl hHb hpn
        rw [up_sw] at e1
        have es : day nr ((days nr n (p, f, w)).1, (days nr n (p, f, w)).2.1, (days nr n (p, f, w)).2.2) = days nr (n + 1) (p, f, w) := (days_succ nr n (p, f, w)).symm
        rw [es] at hH1
        obtain ⟨u2, y2, hO2, hk2, hz⟩ := ih (n + 1) v1 y (by omega) hH1 (fun n2 r2 a b => hO n2 r2 a (by omega))
        refine ⟨u2, y2, hO2, hk2, fun C hC => bX2_note_10 (o0 := 2) rfl (zis19 h hh) hC ⟨fun _ => ⟨_, e1, ?_⟩, fun h => ?_⟩⟩
        · rw [nI_1]
          exact hz C hC
        · rw [va_up_ne _ _ (by decide), va_up_self, hH.n4] at h
          exact absurd (nI_le (by omega) (by omega)) h
      | succ c ih2 =>
        intro r y hr hO
        have hHb : HR (va_up (va_up s 2 u) 19 y 2) nb nr (days nr n (p, f, w)).1 (days nr n (p, f, w)).2.1 (days nr n (p, f, w)).2.2 := by
          rw [va_up_ne _ _ (by decide), va_up_self]
          exact hH
        have hd := ev_isDone (l := l) (ad := ad) (D := D) (ia := ia) (d := d + 3) (r := r) (o := 2) rfl hHb hpn (by omega)
        have ew : (days nr n (p, f, w)).1.1 4 r = (itp n p r).1 := (days_it nr (by omega) n (p, f, w)).1
        rw [ew] at hd
        have hO3 : OT (setA y (10 + h) (upd (y.2.2 (10 + h)) (4 * n + r) (enc (itp n p r).1))) nr p h n (r + 1) := by
          intro n2 r2 a b
          show va_up y.2.2 (10 + h) (upd (y.2.2 (10 + h)) (4 * n + r) (enc (itp n p r).1)) (10 + h) (4 * n2 + r2) = _
          rw [va_up_self]
          by_cases e : 4 * n2 + r2 = 4 * n + r
          · have e1 : n2 = n := by omega
            have e2 : r2 = r := by omega
            subst e1
            subst e2
            rw [upd_self]
          · rw [upd_ne _ _ e]
            exact hO n2 r2 a (by
              rcases b with b | ⟨b1, b2⟩
              · exact Or.inl b
              · refine Or.inr ⟨b1, ?_⟩
                subst b1
                omega)
        obtain ⟨u2, y2, hO2, hk2, hz⟩ := ih2 (r + 1) _ (by omega) hO3
        have hk3 : ∀ j, j ≠ 10 + h → y2.2.2 j = y.2.2 j := fun j hj => (hk2 j hj).trans (va_up_ne _ _ hj)
        have hnl : ¬ (va_up (va_up s 2 u) 19 y 2).1 4 ≤ nI r := by
          rw [hHb.n4]
          exact nI_ge (by omega) (by omega)
        have ev6 : (va_up (va_up s 2 u) 19 y 2).2.2 6 (nI r).toNatClampNeg = (itp n p r).1 := by
          rw [nI_clamp (by omega), hHb.g6 (by omega), ew]
        refine ⟨u2, y2, hO2, hk3, fun C hC => bX2_note_10 (o0 := 2) rfl (zis19 h hh) hC ⟨fun h => absurd h hnl, fun _ => ⟨_, _, hd, fun h0 => ⟨vp_in_nI (by omega) (by omega), ?_, fun s1 e1 => ?_⟩, fun h0 => ⟨?_, fun s1 e1 => ?_⟩⟩⟩⟩
        · rw [ix4r]
          exact vp_in_nI (by omega) (by omega)
        · have c1 : ¬ (itp n p r).1 = -4 := fun q => by
            rw [if_pos q] at h0
            exact absurd h0 (by decide)
          have ee : enc (itp n p r).1 = (itp n p r).1 := if_neg c1
          rw [ev6, ix4r, nI_clamp (by omega), stA_up, ← ee] at e1
          subst e1
          rw [nI_1]
          exact hz C hC
        · rw [ix4r]
          exact vp_in_nI (by omega) (by omega)
        · have c1 : (itp n p r).1 = -4 := by
            apply Classical.byContradiction
            intro q
            rw [if_neg q] at h0
            exact h0 rfl
          have ee : enc (itp n p r).1 = 8 := if_pos c1
          rw [ix4r, nI_clamp (by omega), stA_up, ← ee] at e1
          subst e1
          rw [nI_1]
          exact hz C hC
    obtain ⟨u2, y2, hO2, hk2, hz⟩ := inner nr 0 y (by omega) hO
    exact ⟨u2, y2, hO2, hk2, fun C hC => bX2_note_2 (o0 := 2) rfl (zis19 h hh) hC ⟨fun h => absurd h (nI_nlt (a := 20) (b := n) (by omega) (by omega)), fun _ => hz C hC⟩⟩
theorem ev_foreL (hb : b < nb) (hH1 : HQ (s 1) nb nr p) (hp : PI nb nr p) {pos : Int32} {B : Nat → Bool} (hpos : ∀ i, i < 10 → bt pos i = B i) : ∀ (k h : Nat) (u y : OV), h + k = 10 → (∀ j, j < h → B j = true → OT y nr (pr p 1 b (nI j)) j 21 0) → ∃ u2 y2, (∀ j, j < 10 → B j = true → OT y2 nr (pr p 1 b (nI j)) j 21 0) ∧ ∀ C : ZC, Zok ad D ia C (d + 6) cX2_foresee 6 RX2 none → Z l ad D ia C none (va_up (va_up s 2 u2) 19 y2) 3 [(0, .ref (ad 19 0)), (1, .ref (ad 1 0)), (2, .ref (ad 2 0)), (3, .int (nI b)), (4, .int pos), (5, .int (nI h))] [] (va_up (va_up s 2 u) 19 y) := by
  have h4 := hp.1.2
  have h8 := hp.1.1
  intro k
  induction k with
  | zero =>
    intro h u y hh hO
    have e : h = 10 := by omega
    subst e
    exact ⟨u, y, hO, fun C hC => bX2_foresee_3 (o1 := 1) rfl (o2 := 2) rfl hC ⟨fun _ => ⟨rfl, rfl⟩, fun h => absurd (by decide) h⟩⟩
  | succ k ih =>
    intro h u y hh hO
    have hnl : ¬ (9 : Int32) < nI h := nI_nlt (a := 9) (b := h) (by omega) (by omega)
    have hbit := sh1 pos (h := h) (by omega)
    rw [hpos h (by omega)] at hbit
    cases hB : B h
    · rw [hB] at hbit
      obtain ⟨u2, y2, hO2, hz⟩ := ih (h + 1) u y (by omega) (fun j a c => hO j (by
        by_cases e : j = h
        · subst e
          rw [hB] at c
          exact absurd c (by decide)
        · omega) c)
      refine ⟨u2, y2, hO2, fun C hC => bX2_foresee_3 (o1 := 1) rfl (o2 := 2) rfl hC ⟨fun h => absurd h hnl, fun _ => ⟨fun _ => ?_, fun h => ?_⟩⟩⟩
      · rw [nI_1]
        exact hz C hC
      · rw [hbit] at h
        exact absurd rfl h
    · rw [hB] at hbit
      obtain ⟨f, w, hH⟩ := hH1
      have hHb : HR (va_up (va_up s 2 u) 19 y 1) nb nr p f w := by
        rw [va_up_ne _ _ (by decide), va_up_ne _ _ (by decide)]
        exact hH
      obtain ⟨v1, e1, hT⟩ := ev_copyFrom (l := l) (ad := ad) (D := D) (ia := ia) (d := d + 4) (o := 2) (o1 := 1) rfl rfl (by decide) hHb h8 h4
      rw [up_sw] at e1
      have hT1 := hT.w2 b (nI h)
      generalize hu1 : setA v1 2 (upd (v1.2.2 2) b (nI h)) = u1 at hT1
      obtain ⟨u3, y3, hO3, hk3, hz3⟩ := ev_noteL (l := l) (ad := ad) (D := D) (ia := ia) (d := d) (s := s) (PI_h (b := b) hp ⟨h, by omega, rfl⟩) (h := h) (by omega) 21 0 u1 y (by omega) hT1 (fun n2 r2 a c => absurd c (by omega))
      obtain ⟨u2, y2, hO2, hz⟩ := ih (h + 1) u3 y3 (by omega) (fun j a c => by
        by_cases e : j = h
        · subst e
          exact hO3
        · intro n2 r2 a1 a2
          rw [hk3 _ (by omega)]
          exact hO j (by omega) c n2 r2 a1 a2)
      refine ⟨u2, y2, hO2, fun C hC => bX2_foresee_3 (o1 := 1) rfl (o2 := 2) rfl hC ⟨fun h => absurd h hnl, fun _ => ⟨fun h => ?_, fun _ => ⟨_, e1, vp_in_nI (by omega) (by omega), fun s1 es => ⟨vp_in_nI (by omega) (by omega), ?_, va_up (va_up s 2 u3) 19 y3, ?_, ?_⟩⟩⟩⟩⟩
      · rw [hbit] at h
        exact absurd h (by decide)
      · rw [nI_clamp (by omega)]
        exact zis19 h (by omega)
      · rw [nI_clamp (by omega), stA_up2, hu1] at es
        subst es
        rw [nI_clamp (by omega)]
        exact eX2_note (o0 := 2) rfl (zis19 h (by omega)) (fun C2 hC2 => hz3 C2 hC2)
      · rw [nI_1]
        exact hz C hC
/-- parts: how often each value came -/
def PT (y : OV) (nb : Nat) (g : Nat → Int32) (c : Nat) : Prop := ∀ x, okB nb x → y.2.2 1 (evl x) = nI (al g x c)
theorem ev_mlZ {x1 x2 x3 : Int32} : ∀ (k i : Nat) (y : OV), i + k = 9 → (∀ j, j < i → y.2.2 1 j = 0) → ∃ y2, (∀ j, j < 9 → y2.2.2 1 j = 0) ∧ (∀ j, j ≠ 1 → y2.2.2 j = y.2.2 j) ∧ ∀ (C : ZC) (X : Option Value) (Y : ZS), Zok ad D ia C (d + 1) cX2_mostLeft 7 RX2 (some .int) → Z l ad D ia C X Y 30 [(0, .ref (ad 19 0)), (1, .int x1), (2, .int x2), (3, .int x3), (4, .int 0), (5, .int 0)] [] (va_up s 19 y2) → Z l ad D ia C X Y 3 [(0, .ref (ad 19 0)), (1, .int x1), (2, .int x2), (3, .int x3), (4, .int (nI i))] [] (va_up s 19 y) := by
  intro k
  induction k with
  | zero =>
    intro i y hi hy
    have e : i = 9 := by omega
    subst e
    exact ⟨y, hy, fun _ _ => rfl, fun C X Y hC hz => bX2_mostLeft_3 hC ⟨fun _ => hz, fun h => absurd (by decide) h⟩⟩
  | succ k ih =>
    intro i y hi hy
    obtain ⟨y2, h1, h2, hz⟩ := ih (i + 1) (setA y 1 (upd (y.2.2 1) i 0)) (by omega) (fun j hj => by
      show va_up y.2.2 1 (upd (y.2.2 1) i 0) 1 j = 0
      rw [va_up_self]
      by_cases e : j = i
      · subst e
        rw [upd_self]
      · rw [upd_ne _ _ e]
        exact hy j (by omega))
    refine ⟨y2, h1, fun j hj => (h2 j hj).trans (va_up_ne _ _ hj), fun C X Y hC hz0 => bX2_mostLeft_3 hC ⟨fun h => absurd h (nI_nlt (a := 8) (b := i) (by omega) (by omega)), fun _ => ⟨vp_in_nI (by omega) (by omega), fun s1 e1 => ?_⟩⟩⟩
    rw [nI_clamp (by omega), stA_up] at e1
    subst e1
    rw [nI_1]
    exact hz C X Y hC hz0
theorem ev_mlL (hp : PI nb nr p) {pos : Int32} {B : Nat → Bool} (hpos : ∀ i, i < 10 → bt pos i = B i) (hb : b < nb) {n : Nat} (hn : n ≤ 20) (hr : r < nr) {g : Nat → Int32} (hg : ∀ h, h < 10 → B h = true → g (pc B h) = (itp n (pr p 1 b (nI h)) r).1) : ∀ (k h : Nat) (y : OV), h + k = 10 → (∀ j, j < 10 → B j = true → OT y nr (pr p 1 b (nI j)) j 21 0) → PT y nb g (pc B h) → ∃ y2, (∀ j, j ≠ 1 → y2.2.2 j = y.2.2 j) ∧ ∀ (C : ZC), Zok ad D ia C (d + 1) cX2_mostLeft 7 RX2 (some .int) → Z l ad D ia C (some (.int (nI (mo g (pc B 10))))) (va_up s 19 y2) 30 [(0, .ref (ad 19 0)), (1, .int pos), (2, .int (nI n)), (3, .int (nI r)), (4, .int (nI (mo g (pc B h)))), (5, .int (nI h))] [] (va_up s 19 y) := by
  have h4 := hp.1.2
  have h8 := hp.1.1
  intro k
  induction k with
  | zero =>
    intro h y hh hO hP
    have e : h = 10 := by omega
    subst e
    exact ⟨y, fun _ _ => rfl, fun C hC => bX2_mostLeft_30 hC ⟨fun _ => ⟨rfl, rfl⟩, fun h => absurd (by decide) h⟩⟩
  | succ k ih =>
    intro h y hh hO hP
    have hnl : ¬ (9 : Int32) < nI h := nI_nlt (a := 9) (b := h) (by omega) (by omega)
    have hbit := sh1 pos (h := h) (by omega)
    rw [hpos h (by omega)] at hbit
    cases hB : B h
    · rw [hB] at hbit
      have epc := pc_f hB
      obtain ⟨y2, hk, hz⟩ := ih (h + 1) y (by omega) hO (by rw [epc]; exact hP)
      refine ⟨y2, hk, fun C hC => bX2_mostLeft_30 hC ⟨fun h => absurd h hnl, fun _ => ⟨fun _ => ?_, fun h => ?_⟩⟩⟩
      · have hz := hz C hC
        rw [epc] at hz
        rw [nI_1]
        exact hz
      · rw [hbit] at h
        exact absurd rfl h
    · rw [hB] at hbit
      have epc := pc_t hB
      have hph := PI_h (b := b) hp ⟨h, (by omega : h ≤ 9), rfl⟩
      have hok := itp_ok (n := n) hph hr
      have hv := evl_nI hok h8
      have eg := hg h (by omega) hB
      have hle := pc_le B h
      have hal := al_le g (itp n (pr p 1 b (nI h)) r).1 (pc B h)
      have hmo := mo_le g (pc B h)
      have eal : al g (itp n (pr p 1 b (nI h)) r).1 (pc B h + 1) = al g (itp n (pr p 1 b (nI h)) r).1 (pc B h) + 1 := by
        show _ + (if _ = g (pc B h) then 1 else 0) = _
        rw [if_pos eg.symm]
      have emo : mo g (pc B h + 1) = max (mo g (pc B h)) (al g (itp n (pr p 1 b (nI h)) r).1 (pc B h) + 1) := by
        show max _ (al g (g (pc B h)) (pc B h + 1)) = _
        rw [eg, eal]
      obtain ⟨y2, hk, hz⟩ := ih (h + 1) (setA y 1 (upd (y.2.2 1) (evl (itp n (pr p 1 b (nI h)) r).1) (nI (al g (itp n (pr p 1 b (nI h)) r).1 (pc B h) + 1)))) (by omega) (fun j a c n2 r2 a1 a2 => by
        have := hO j a c n2 r2 a1 a2
        rw [← this]
        exact congrFun (va_up_ne y.2.2 _ (show 10 + j ≠ 1 by omega)) _) (by
        intro x hx
        rw [setA_s, epc]
        by_cases e : evl x = evl (itp n (pr p 1 b (nI h)) r).1
        · have := evl_inj hx hok h8 e
          subst this
          rw [upd_self, eal]
        · rw [upd_ne _ _ e, hP x hx]
          congr 1
          show _ = al g x (pc B h) + (if x = g (pc B h) then 1 else 0)
          rw [if_neg (fun q => e (by rw [q, eg]))]
          rfl)
      have erow : (va_up s 19 y 19).2.2 (10 + (nI h).toNatClampNeg) (nI n * 4 + nI r).toNatClampNeg = nI (evl (itp n (pr p 1 b (nI h)) r).1) := by
        rw [va_up_self, nI_clamp (by omega), ix4r, nI_clamp (by omega), hO h (by omega) hB n r hr (by omega), hv.1]
      refine ⟨y2, fun j hj => (hk j hj).trans (va_up_ne _ _ hj), fun C hC => bX2_mostLeft_30 hC ⟨fun h => absurd h hnl, fun _ => ⟨fun h => ?_, fun _ => ?_⟩⟩⟩
      · rw [hbit] at h
        exact absurd h (by decide)
      · rw [erow, nI_clamp (show h < 2 ^ 31 by omega), nI_clamp (show evl (itp n (pr p 1 b (nI h)) r).1 < 2 ^ 31 by omega)]
        refine ⟨vp_in_nI (by omega) (by omega), zis19 h (by omega), ?_, vp_in_nI (by omega) (by omega), vp_in_nI (by omega) (by omega), fun s1 e1 => ⟨vp_in_nI (by omega) (by omega), ?_⟩⟩
        · rw [ix4r]
          exact vp_in_nI (by omega) (by omega)
        · rw [va_up_self, hP _ hok, nI_1, stA_up] at e1
          subst e1
          have e8 : (va_up s 19 (setA y 1 (upd (y.2.2 1) (evl (itp n (pr p 1 b (nI h)) r).1) (nI (al g (itp n (pr p 1 b (nI h)) r).1 (pc B h) + 1)))) 19).2.2 1 (evl (itp n (pr p 1 b (nI h)) r).1) = nI (al g (itp n (pr p 1 b (nI h)) r).1 (pc B h) + 1) := by
            rw [va_up_self, setA_s, upd_self]
          have hz := hz C hC
          rw [epc, emo] at hz
          rw [e8, mmax_nI (by omega) (by omega), nI_1]
          exact hz
theorem ev_mostLeft (hp : PI nb nr p) {pos : Int32} {B : Nat → Bool} (hpos : ∀ i, i < 10 → bt pos i = B i) (hb : b < nb) {n : Nat} (hn : n ≤ 20) (hr : r < nr) {g : Nat → Int32} (hg : ∀ h, h < 10 → B h = true → g (pc B h) = (itp n (pr p 1 b (nI h)) r).1) (y : OV) (hO : ∀ j, j < 10 → B j = true → OT y nr (pr p 1 b (nI j)) j 21 0) : ∃ y2, (∀ j, j ≠ 1 → y2.2.2 j = y.2.2 j) ∧ Ev l ad D ia (d + 1) mX2_mostLeft [.ref (ad 19 0), .int pos, .int (nI n), .int (nI r)] (va_up s 19 y) (some (.int (nI (mo g (pc B 10))))) (va_up s 19 y2) := by
  obtain ⟨y1, h1, hk1, hz1⟩ := ev_mlZ (l := l) (ad := ad) (D := D) (ia := ia) (d := d) (s := s) (x1 := pos) (x2 := nI n) (x3 := nI r) 9 0 y (by omega) (fun j hj => absurd hj (by omega))
  have hO1 : ∀ j, j < 10 → B j = true → OT y1 nr (pr p 1 b (nI j)) j 21 0 := fun j a c n2 r2 a1 a2 => by
    rw [hk1 _ (by omega)]
    exact hO j a c n2 r2 a1 a2
  have h8 := hp.1.1
  obtain ⟨y2, hk2, hz2⟩ := ev_mlL (l := l) (ad := ad) (D := D) (ia := ia) (d := d) (s := s) hp hpos hb hn hr hg 10 0 y1 (by omega) hO1 (fun x hx => by
    have := evl_nI hx h8
    exact h1 _ (by omega))
  exact ⟨y2, fun j hj => (hk2 j hj).trans (hk1 j hj), eX2_mostLeft (fun C hC => hz1 C _ _ hC (hz2 C hC))⟩
end ASC
