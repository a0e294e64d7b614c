/-! text(): both sides -/
def LI (L : LQ) : Prop := (∀ b, b < L.1 → rng (L.2.2.1.1 0 b) 0 7 ∧ rng (L.2.2.1.1 1 b) 0 9 ∧ okB 8 (L.2.2.1.1 2 b)) ∧ (∀ r, r < L.2.1 → rng (L.2.2.1.1 3 r) 0 3 ∧ okB 8 (L.2.2.1.1 4 r) ∧ rng (L.2.2.1.1 5 r) 1 99 ∧ L.2.2.1.1 6 r = 0) ∧ rng (L.2.2.1.2 0) 0 7 ∧ L.2.2.1.2 1 = 0 ∧ L.2.2.1.2 2 = 0
theorem rng_of {x : Int32} {lo hi : Nat} (h : (lo : Int) ≤ x.toInt ∧ x.toInt ≤ hi) : rng x lo hi := ⟨x.toInt.toNat, by omega, by omega, nI_of_toInt (by omega)⟩
theorem okB_bO {x : Int32} (h : 0 ≤ x.toInt ∧ x.toInt ≤ 9) (h8 : ¬ x = 8) : okB 8 (bO x) := by
  unfold bO
  by_cases c : x = 9
  · rw [if_pos c]
    exact Or.inl rfl
  · rw [if_neg c]
    have n8 : ¬ x.toInt = 8 := fun q => h8 (Int32.toInt_inj.mp (q.trans (by decide : (8 : Int) = (8 : Int32).toInt)))
    have n9 : ¬ x.toInt = 9 := fun q => c (Int32.toInt_inj.mp (q.trans (by decide : (9 : Int) = (9 : Int32).toInt)))
    exact Or.inr ⟨x.toInt.toNat, by omega, nI_of_toInt (by omega)⟩
theorem rngV {tb : Nat → Int32} {r : TS} {lo hi : Nat} {u : Nat × Nat × Nat} (e : bnd r (chN tb lo hi) = .inr u) : (lo : Int) ≤ (val tb u).toInt ∧ (val tb u).toInt ≤ hi := by
  obtain ⟨t, -, e2⟩ := bnd_inr e
  obtain ⟨rfl, -, h1, h2⟩ := chN_inr e2
  exact ⟨h1, h2⟩
section TXT
variable {l : Launch} {ad : ZA} {D : va_G} {ia : Nat → ClassId} {s : ZS} {tl : Nat} {tb : Nat → Int32} {t u : Nat × Nat × Nat} {L : LQ}
theorem LI_B (h : LI L) (e : (lnB tl tb t L).1 = .inr u) : LI (lnB tl tb t L).2 := by
  unfold lnB at e ⊢
  by_cases c : L.1 < 8
  · rw [if_pos c] at e ⊢
    dsimp only at e ⊢
    generalize q1 : bnd (nxt tl tb (.inr t)) (chN tb 0 7) = r1 at e ⊢
    generalize q2 : bnd (nxt tl tb r1) (chN tb 0 9) = r2 at e ⊢
    generalize q3 : bnd (nxt tl tb r2) (chN tb 0 9) = r3 at e ⊢
    obtain ⟨u4, w4, -⟩ := bnd_inr e
    obtain ⟨u5, w5⟩ := nxt_inr w4
    obtain ⟨u6, w6, w6'⟩ := bnd_inr w5
    obtain ⟨w7, w8⟩ := chB_inr w6'
    obtain ⟨u7, w9, -⟩ := bnd_inr (q3.trans w6)
    obtain ⟨u8, w10⟩ := nxt_inr w9
    obtain ⟨u9, w11, -⟩ := bnd_inr (q2.trans w10)
    obtain ⟨u10, w12⟩ := nxt_inr w11
    have z1 : vO tb r1 = val tb u10 := by rw [w12]; rfl
    have z2 : vO tb r2 = val tb u8 := by rw [w10]; rfl
    have z3 : vO tb r3 = val tb u6 := by rw [w6]; rfl
    rw [z1, z2, z3]
    obtain ⟨h1, h2, h3⟩ := h
    refine ⟨fun b hb => ?_, fun r hr => ?_, h3⟩
    · dsimp only at hb ⊢
      by_cases eb : b = L.1
      · subst eb
        refine ⟨?_, ?_, ?_⟩
        · rw [pr_sta (by decide), pr_sta (by decide), pr_self]
          exact rng_of (rngV (q1.trans w12))
        · rw [pr_sta (by decide), pr_self]
          exact rng_of (rngV (q2.trans w10))
        · rw [pr_self]
          have := rngV (q3.trans w6)
          exact okB_bO ⟨by omega, by omega⟩ w8
      · have hb' := h1 b (by omega)
        refine ⟨?_, ?_, ?_⟩
        · rw [pr_sta (by decide), pr_sta (by decide), pr_row eb]
          exact hb'.1
        · rw [pr_sta (by decide), pr_row eb, pr_sta (by decide)]
          exact hb'.2.1
        · rw [pr_row eb, pr_sta (by decide), pr_sta (by decide)]
          exact hb'.2.2
    · dsimp only at hr ⊢
      rw [pr_sta (by decide), pr_sta (by decide), pr_sta (by decide), pr_sta (by decide), pr_sta (by decide), pr_sta (by decide), pr_sta (by decide), pr_sta (by decide), pr_sta (by decide), pr_sta (by decide), pr_sta (by decide), pr_sta (by decide)]
      exact h2 r hr
  · rw [if_neg c] at e
    injection e
theorem LI_R {kd : Nat} (hk : kd < 4) (h : LI L) (e : (lnR tl tb kd t L).1 = .inr u) : LI (lnR tl tb kd t L).2 := by
  unfold lnR at e ⊢
  by_cases c : L.2.1 < 4
  · rw [if_pos c] at e ⊢
    dsimp only at e ⊢
    generalize q1 : bnd (nxt tl tb (.inr t)) (chN tb 0 9) = r1 at e ⊢
    generalize q2 : bnd r1 (chB8 tb) = r2 at e ⊢
    generalize q3 : bnd (nxt tl tb r2) (chN tb 1 99) = r3 at e ⊢
    obtain ⟨u4, w4, -⟩ := bnd_inr e
    obtain ⟨u5, w5⟩ := nxt_inr w4
    obtain ⟨u6, w6, -⟩ := bnd_inr (q3.trans w5)
    obtain ⟨u7, w7⟩ := nxt_inr w6
    obtain ⟨u8, w8, w8'⟩ := bnd_inr (q2.trans w7)
    obtain ⟨-, w9⟩ := chB_inr w8'
    have z1 : vO tb r1 = val tb u8 := by rw [w8]; rfl
    have z3 : vO tb r3 = val tb u5 := by rw [w5]; rfl
    rw [z1, z3]
    obtain ⟨h1, h2, h3⟩ := h
    refine ⟨fun b hb => ?_, fun r hr => ?_, h3⟩
    · dsimp only at hb ⊢
      rw [pr_sta (by decide), pr_sta (by decide), pr_sta (by decide), pr_sta (by decide), pr_sta (by decide), pr_sta (by decide), pr_sta (by decide), pr_sta (by decide), pr_sta (by decide), pr_sta (by decide), pr_sta (by decide), pr_sta (by decide)]
      exact h1 b hb
    · dsimp only at hr ⊢
      by_cases eb : r = L.2.1
      · subst eb
        refine ⟨?_, ?_, ?_, ?_⟩
        · rw [pr_sta (by decide), pr_sta (by decide), pr_sta (by decide), pr_self]
          exact ⟨kd, Nat.zero_le kd, by omega, rfl⟩
        · rw [pr_sta (by decide), pr_sta (by decide), pr_self]
          have := rngV (q1.trans w8)
          exact okB_bO ⟨by omega, by omega⟩ w9
        · rw [pr_sta (by decide), pr_self]
          exact rng_of (rngV (q3.trans w5))
        · rw [pr_self]
      · have hb' := h2 r (by omega)
        refine ⟨?_, ?_, ?_, ?_⟩
        · rw [pr_sta (by decide), pr_sta (by decide), pr_sta (by decide), pr_row eb]
          exact hb'.1
        · rw [pr_sta (by decide), pr_sta (by decide), pr_row eb, pr_sta (by decide)]
          exact hb'.2.1
        · rw [pr_sta (by decide), pr_row eb, pr_sta (by decide), pr_sta (by decide)]
          exact hb'.2.2.1
        · rw [pr_row eb, pr_sta (by decide), pr_sta (by decide), pr_sta (by decide)]
          exact hb'.2.2.2
  · rw [if_neg c] at e
    injection e
theorem LI_S (h : LI L) (e : (lnS tl tb t L).1 = .inr u) : LI (lnS tl tb t L).2 := by
  unfold lnS at e ⊢
  by_cases c : L.2.2.2 = false
  · rw [if_pos c] at e ⊢
    dsimp only at e ⊢
    generalize q1 : bnd (nxt tl tb (.inr t)) (chN tb 0 7) = r1 at e ⊢
    obtain ⟨u4, w4, -⟩ := bnd_inr e
    obtain ⟨u5, w5⟩ := nxt_inr w4
    have z1 : vO tb r1 = val tb u5 := by rw [w5]; rfl
    rw [z1]
    obtain ⟨h1, h2, h3, h4, h5⟩ := h
    refine ⟨h1, h2, ?_, ?_, ?_⟩
    · show rng (va_up L.2.2.1.2 0 (val tb u5) 0) 0 7
      rw [va_up_self]
      exact rng_of (rngV (q1.trans w5))
    · show va_up L.2.2.1.2 0 (val tb u5) 1 = 0
      rw [va_up_ne _ _ (by decide)]
      exact h4
    · show va_up L.2.2.1.2 0 (val tb u5) 2 = 0
      rw [va_up_ne _ _ (by decide)]
      exact h5
  · rw [if_neg c] at e
    injection e
theorem LI_A (h : LI L) (e : (lnA tl tb t L).1 = .inr u) : LI (lnA tl tb t L).2 := by
  unfold lnA at e ⊢
  by_cases c : t.1 = 1
  · rw [if_pos c] at e ⊢
    by_cases c0 : wd tb t 0 = true
    · rw [if_pos c0] at e ⊢
      exact LI_B h e
    · rw [if_neg c0] at e ⊢
      by_cases c1 : wd tb t 1 = true
      · rw [if_pos c1] at e ⊢
        exact LI_R (by decide) h e
      · rw [if_neg c1] at e ⊢
        by_cases c2 : wd tb t 2 = true
        · rw [if_pos c2] at e ⊢
          exact LI_R (by decide) h e
        · rw [if_neg c2] at e ⊢
          by_cases c3 : wd tb t 3 = true
          · rw [if_pos c3] at e ⊢
            exact LI_R (by decide) h e
          · rw [if_neg c3] at e ⊢
            by_cases c4 : wd tb t 4 = true
            · rw [if_pos c4] at e ⊢
              exact LI_R (by decide) h e
            · rw [if_neg c4] at e ⊢
              by_cases c5 : wd tb t 5 = true
              · rw [if_pos c5] at e ⊢
                exact LI_S h e
              · rw [if_neg c5] at e
                injection e
  · rw [if_neg c] at e
    injection e
theorem LI_tx : ∀ (k : Nat) (r : TS) (L : LQ) (n : Nat), (∀ t, r = .inr t → LI L) → okL L → (∀ u, (txF tl tb k r L n).1 = .inr u → LI (txF tl tb k r L n).2.1) ∧ okL (txF tl tb k r L n).2.1
  | 0, r, L, n, h, hL => ⟨h, hL⟩
  | k + 1, r, L, n, h, hL => by
    cases r with
    | inl e => exact ⟨fun u q => by injection q, hL⟩
    | inr t =>
      have e : txF tl tb (k + 1) (.inr t) L n = if t.1 = 0 then (.inr t, L, n) else txF tl tb k (nxt tl tb (lnA tl tb t L).1) (lnA tl tb t L).2 (n + 1) := rfl
      rw [e]
      by_cases c : t.1 = 0
      · rw [if_pos c]
        exact ⟨fun u q => h t rfl, hL⟩
      · rw [if_neg c]
        exact LI_tx k _ _ (n + 1) (fun w q => by
          obtain ⟨w2, q2⟩ := nxt_inr q
          exact LI_A (h t rfl) q2) (okL_A hL)
theorem txO_u {F : TS × LQ × Nat} {e e2 : Sum (Nat × Nat) Unit} (h : txO tl F e) (h2 : txO tl F e2) : e = e2 := by
  obtain ⟨F1, L, n⟩ := F
  cases F1 with
  | inl q =>
    cases e with
    | inl a =>
      cases e2 with
      | inl b => rw [show a = q from h, show b = q from h2]
      | inr b => exact h2.elim
    | inr a => exact h.elim
  | inr t =>
    cases e with
    | inl a =>
      cases e2 with
      | inl b => rw [h.1, h2.1]
      | inr b => exact absurd h.2 h2
    | inr a =>
      cases e2 with
      | inl b => exact absurd h2.2 h
      | inr b => rfl
theorem LI_PB (h : LI L) (hL : okL L) (hm : ¬ missN L.1 L.2.1 (L.2.2.1.1 2) (L.2.2.1.1 4)) : PB L.1 L.2.1 L.2.2.1 := by
  have hL1 := hL.1
  have ok : ∀ x, okB 8 x → x < nI L.1 → okB L.1 x := fun x hx hlt => by
    rcases hx with hx | ⟨b, hb, rfl⟩
    · exact Or.inl hx
    · exact Or.inr ⟨b, (nI_ltI (by omega) (by omega)).mp hlt, rfl⟩
  obtain ⟨h1, h2, h3, h4, h5⟩ := h
  refine ⟨⟨⟨hL.1, hL.2⟩, fun b hb => ok _ (h1 b hb).2.2 ?_, fun r hr => ok _ (h2 r hr).2.1 ?_, fun b hb => ?_⟩, fun b hb => (h1 b hb).1, fun r hr => ⟨(h2 r hr).1, (h2 r hr).2.2.1, ?_⟩, h3, ?_, ?_⟩
  · apply Classical.byContradiction
    intro q
    exact hm (Or.inl ⟨b, hb, q⟩)
  · apply Classical.byContradiction
    intro q
    exact hm (Or.inr ⟨r, hr, q⟩)
  · obtain ⟨k, -, hk, e⟩ := (h1 b hb).2.1
    exact ⟨k, hk, e⟩
  · rw [(h2 r hr).2.2.2]
    exact ⟨0, by decide, by decide, rfl⟩
  · rw [h4]
    exact ⟨0, by decide, by decide, rfl⟩
  · rw [h5]
    exact ⟨0, by decide, by decide, rfl⟩
theorem op_text (hR : RR s) : Op l ad D ia s mX8_text mX9_text [] := by
  obtain ⟨nb, nr, p, tl, tb, flt, sn, sa, K, H, tn, hG, hC, hM⟩ := hR
  have ht := hG.2.1
  obtain ⟨x, e, s1, hE1, o1, c1, a16, a07⟩ := ev_text (l := l) (ad := ad) (D := D) (ia := ia) (d := 3) (s := s) (tb := tb) ht.1 hC.2.1.1 hC.2.1.2
  have e20 : s1 20 = s 20 := by
    cases e with
    | inl q => exact c1.2.2 20 (by decide) (by decide) (by decide) (by decide)
    | inr u => exact c1.2.2.2.2.2.2 20 (by decide) (by decide) (by decide) (by decide) (by decide) (by decide) (by decide) (by decide)
  obtain ⟨x2, e2, v1, hE2, o2, m1, m11⟩ := mv_text (l := l) (ad := ad) (D := D) (ia := ia) (d := 4) (s := s1) (tb := tb) (v := s 20) ht.1 ht.2 hM.2.1.1 hM.2.1.2
  have ee := txO_u o1 o2
  subst ee
  rw [← e20, up_id] at hE2
  obtain ⟨LIf, okLf⟩ := LI_tx (tl := tl) (tb := tb) 160 (tkE tl tb 0) L00 0 (fun t _ => ⟨fun b hb => absurd hb (Nat.not_lt_zero b), fun r hr => absurd hr (Nat.not_lt_zero r), ⟨0, by decide, by decide, rfl⟩, rfl, rfl⟩) ⟨by decide, by decide⟩
  generalize txF tl tb 160 (tkE tl tb 0) L00 0 = F at o1 o2 c1 m1 LIf okLf
  cases e with
  | inl q =>
    obtain ⟨cx, c3, cO⟩ := c1
    obtain ⟨mk, mr, mx, m16, ⟨m3, m4⟩, mr0, mr2⟩ := m1
    have ex : x2 = x := by rw [cx, mx]
    subst ex
    refine ⟨_, _, _, hE1, hE2, nb, nr, p, 0, tb, nI q.1, sn, sa, K, H, tn, ⟨hG.1, ⟨Nat.zero_le _, fun i hi => absurd hi (Nat.not_lt_zero i)⟩, hG.2.2⟩, CR_20 ⟨?_, ⟨a16, fun i hi => absurd hi (Nat.not_lt_zero i)⟩, ⟨c3, a07.trans hC.2.2.1.2⟩, ?_, ?_, ?_⟩, ?_⟩
    · rw [cO 1 (by decide) (by decide) (by decide) (by decide)]
      exact hC.1
    · rw [cO 7 (by decide) (by decide) (by decide) (by decide)]
      exact hC.2.2.2.1
    · intro k hk
      rw [cO (10 + k) (by omega) (by omega) (by omega) (by omega), cO (5 + k) (by omega) (by omega) (by omega) (by omega), cO (8 + k) (by omega) (by omega) (by omega) (by omega)]
      exact hC.2.2.2.2.1 k hk
    · intro k hk
      rw [cO (12 + k) (by omega) (by omega) (by omega) (by omega)]
      exact hC.2.2.2.2.2 k hk
    · rw [va_up_self]
      obtain ⟨M1, M2, M3, M4, M5, M6⟩ := hM
      refine ⟨⟨m3.trans M1.1, m4.trans M1.2⟩, ⟨m11, fun i hi => absurd hi (Nat.not_lt_zero i)⟩, ⟨m16, (mk 32 (by decide)).trans M3.2⟩, by rw [mr0]; exact M4, ?_, ?_⟩
      · rw [mr2, mr0]
        exact M5
      · rw [mr 29 (by decide) (by decide) (by decide), mr 30 (by decide) (by decide) (by decide), mr 31 (by decide) (by decide) (by decide)]
        exact M6
  | inr u =>
    obtain ⟨cx, c3, cH, c7, c10, c11, cO⟩ := c1
    obtain ⟨mk, mr, mx, m16, ⟨m3, m4⟩, ⟨mN, m43⟩, m20, m21⟩ := m1
    have ex : x2 = x := by rw [cx, mx]
    subst ex
    obtain ⟨F1, L, n⟩ := F
    cases F1 with
    | inl q => exact o1.elim
    | inr t =>
      have hPB := LI_PB (LIf t rfl) okLf o1
      refine ⟨_, _, _, hE1, hE2, L.1, L.2.1, L.2.2.1, 0, tb, 0, 0, sa, (fun _ => (0, p00, 0, sa)), H, tn, ⟨hPB, ⟨Nat.zero_le _, fun i hi => absurd hi (Nat.not_lt_zero i)⟩, ⟨Nat.zero_le _, fun i hi => absurd hi (Nat.not_lt_zero i)⟩, fun k hk => ⟨Or.inl rfl, fun q => absurd rfl q⟩, hG.2.2.2.2⟩, CR_20 ⟨⟨0, 0, cH⟩, ⟨a16, fun i hi => absurd hi (Nat.not_lt_zero i)⟩, ⟨c3, a07.trans hC.2.2.1.2⟩, ⟨?_, fun i j hi => absurd hi (Nat.not_lt_zero i)⟩, ?_, ?_⟩, ?_⟩
      · rw [c7, sI_s]
        rfl
      · intro k hk
        refine ⟨?_, fun q => absurd rfl q⟩
        rcases (show k = 0 ∨ k = 1 by omega) with rfl | rfl
        · show (s1 10).1 0 = 0
          rw [c10, sI_s]
        · show (s1 11).1 0 = 0
          rw [c11, sI_s]
      · intro k hk
        rw [cO (12 + k) (by omega) (by omega) (by omega) (by omega) (by omega) (by omega) (by omega) (by omega)]
        exact hC.2.2.2.2.2 k hk
      · rw [va_up_self]
        obtain ⟨M1, M2, M3, M4, M5, M6⟩ := hM
        refine ⟨⟨m3, m4⟩, ⟨m11, fun i hi => absurd hi (Nat.not_lt_zero i)⟩, ⟨m16, (mk 32 (by decide)).trans M3.2⟩, ⟨?_, ?_, fun i j hi => absurd hi (Nat.not_lt_zero i)⟩, ?_, ?_⟩
        · have ea : (fun k => v1.2.2 0 (0 + k)) = v1.2.2 0 := by
            funext k
            rw [Nat.zero_add]
          rw [ea]
          exact mN
        · rw [Nat.zero_add]
          exact m43
        · intro k hk
          refine ⟨?_, fun q => absurd rfl q⟩
          rcases (show k = 0 ∨ k = 1 by omega) with rfl | rfl
          · exact m20
          · exact m21
        · rw [mr 29 (by decide) (by decide) (by decide), mr 30 (by decide) (by decide) (by decide), mr 31 (by decide) (by decide) (by decide)]
          exact M6
end TXT
