/-! THE TEXT, the class's side: the call -/
section TXH
variable {l : Launch} {ad : ZA} {D : va_G} {ia : Nat → ClassId} {d : Nat} {s : ZS} {tl : Nat} {tb : Nat → Int32}
theorem tx_ok (h160 : tl ≤ 160) : okT tl (txF tl tb 160 (tkE tl tb 0) L00 0).1 := (txF_end h160 160 _ L00 0 rfl (tkE_ok (Nat.zero_le tl)) (by
  cases tkE tl tb 0 with
  | inl e => trivial
  | inr t => exact Nat.zero_le _)).1
def txC (s s1 : ZS) (F : TS × LQ × Nat) (x : Int32) (e : Sum (Nat × Nat) Unit) : Prop := match e with
  | .inl q => x = -10 - nI q.2 ∧ (s1 0).1 3 = nI q.1 ∧ (∀ o, o ≠ 0 → o ≠ 16 → o ≠ 17 → o ≠ 3 → s1 o = s o)
  | .inr _ => x = nI F.2.2 ∧ (s1 0).1 3 = 0 ∧ HR (s1 1) F.2.1.1 F.2.1.2.1 F.2.1.2.2.1 0 0 ∧ s1 7 = setI (s 7) 0 0 ∧ s1 10 = setI (s 10) 0 0 ∧ s1 11 = setI (s 11) 0 0 ∧ (∀ o, o ≠ 0 → o ≠ 16 → o ≠ 17 → o ≠ 3 → o ≠ 1 → o ≠ 7 → o ≠ 10 → o ≠ 11 → s1 o = s o)
theorem ev_text (h160 : tl ≤ 160) (h1 : (s 16).1 1 = nI tl) (hb : ∀ j, j < tl → (s 16).2.2 0 j = tb j) : ∃ x e s1, Ev l ad D ia (d + 6) mX8_text [.ref (ad 0 0)] s (some (.int x)) s1 ∧ txO tl (txF tl tb 160 (tkE tl tb 0) L00 0) e ∧ txC s s1 (txF tl tb 160 (tkE tl tb 0) L00 0) x e ∧ (s1 16).1 1 = nI 0 ∧ (s1 0).1 7 = (s 0).1 7 := by
  obtain ⟨s1, hB, t1, k1, n1, f1⟩ := ev_begin (l := l) (ad := ad) (D := D) (ia := ia) (d := d + 2) (s := s) (tb := tb) h160 h1 hb
  obtain ⟨s2, ⟨t2, k2, l2, n2, f2⟩, hz⟩ := ev_lines (l := l) (ad := ad) (D := D) (ia := ia) (d := d) (tb := tb) h160 160 (tkE tl tb 0) L00 0 s1 rfl (tkE_ok (Nat.zero_le tl)) t1 k1 ⟨by decide, by decide⟩ n1
  have hoF := tx_ok (tb := tb) h160
  generalize txF tl tb 160 (tkE tl tb 0) L00 0 = F at t2 k2 l2 n2 hoF ⊢
  obtain ⟨s3, e, h3, o3, f3, m3⟩ := ev_finish (l := l) (ad := ad) (D := D) (ia := ia) (d := d + 4) hoF t2 k2 l2
  have fA : ∀ o, o ≠ 16 → o ≠ 17 → o ≠ 3 → s3 o = s o := fun o a1 a2 a3 => (f3.1 o a1 a2).trans ((f2 o a1 a2 a3).trans (f1 o a1 a2 a3))
  have f0 : s3 0 = s 0 := fA 0 (by decide) (by decide) (by decide)
  have hn : ∀ z1 z2 : ZS, z1 = stI s3 16 1 0 → z2 = stI z1 0 3 ((z1 17).1 0) → z2 = va_up (va_up s3 16 (setI (s3 16) 1 0)) 0 (setI (s 0) 3 ((s3 17).1 0)) := by
    intro z1 z2 q1 q2
    have q1 : z1 = va_up s3 16 (setI (s3 16) 1 0) := q1
    subst q1
    rw [q2]
    unfold stI
    rw [va_up_ne _ _ (show 17 ≠ 16 by decide), va_up_ne _ _ (show 0 ≠ 16 by decide), f0]
  obtain ⟨yyA, eA⟩ : ∃ z, z = va_up (va_up s3 16 (setI (s3 16) 1 0)) 0 (setI (s 0) 3 ((s3 17).1 0)) := ⟨_, rfl⟩
  have a0 : (yyA 0).1 3 = (s3 17).1 0 := by rw [eA, va_up_self, sI_s]
  have a07 : (yyA 0).1 7 = (s 0).1 7 := by rw [eA, va_up_self, sI_n _ _ (by decide)]
  have a17 : yyA 17 = s3 17 := by rw [eA, va_up_ne _ _ (by decide), va_up_ne _ _ (by decide)]
  have a16 : (yyA 16).1 1 = nI 0 := by
    rw [eA, va_up_ne _ _ (by decide), va_up_self, sI_s]
    rfl
  have aO : ∀ o, o ≠ 0 → o ≠ 16 → yyA o = s3 o := fun o b1 b2 => by rw [eA, va_up_ne _ _ b1, va_up_ne _ _ b2]
  rw [← eA] at hn
  cases e with
  | inl q =>
    obtain ⟨⟨m1, m2⟩, m4⟩ := m3
    refine ⟨-10 - nI q.2, .inl q, yyA, eX8_text (fun C hC => ⟨s1, hB, hz C _ _ hC (bX8_text_39 hC ⟨s3, h3, fun z1 q1 z2 q2 => ?_⟩)⟩), o3, ⟨rfl, by rw [a0]; exact m1, fun o b1 b2 b3 b4 => (aO o b1 b2).trans (fA o b2 b3 b4)⟩, a16, a07⟩
    have := hn z1 z2 q1 q2
    subst this
    refine ⟨fun q0 => absurd (by rw [a0, m1] at q0; exact q0) (nI_fl m4), fun _ => ⟨?_, rfl⟩⟩
    rw [a17, m2]
  | inr u =>
    obtain ⟨m1, m2⟩ := m3
    have h3H : HR (yyA 3) F.2.1.1 F.2.1.2.1 F.2.1.2.2.1 0 0 := by rw [aO 3 (by decide) (by decide)]; exact m2
    obtain ⟨v1, hcp, hv1⟩ := ev_copyFrom (l := l) (ad := ad) (D := D) (ia := ia) (d := d + 4) (s := yyA) (o := 1) (o1 := 3) rfl rfl (by decide) h3H l2.1 l2.2
    have b7 : yyA 7 = s 7 := (aO 7 (by decide) (by decide)).trans (fA 7 (by decide) (by decide) (by decide))
    have b10 : yyA 10 = s 10 := (aO 10 (by decide) (by decide)).trans (fA 10 (by decide) (by decide) (by decide))
    have b11 : yyA 11 = s 11 := (aO 11 (by decide) (by decide)).trans (fA 11 (by decide) (by decide) (by decide))
    obtain ⟨yyB, eB⟩ : ∃ z, z = va_up (va_up yyA 1 v1) 7 (setI (s 7) 0 0) := ⟨_, rfl⟩
    obtain ⟨yyC, eC⟩ : ∃ z, z = va_up yyB 10 (setI (s 10) 0 0) := ⟨_, rfl⟩
    have c10 : yyB 10 = s 10 := by rw [eB, va_up_ne _ _ (by decide), va_up_ne _ _ (by decide)]; exact b10
    have c11 : yyC 11 = s 11 := by rw [eC, va_up_ne _ _ (by decide), eB, va_up_ne _ _ (by decide), va_up_ne _ _ (by decide)]; exact b11
    have dO : ∀ o, o ≠ 1 → o ≠ 7 → o ≠ 10 → o ≠ 11 → va_up yyC 11 (setI (s 11) 0 0) o = yyA o := fun o g1 g2 g3 g4 => by
      rw [va_up_ne _ _ g4, eC, va_up_ne _ _ g3, eB, va_up_ne _ _ g2, va_up_ne _ _ g1]
    refine ⟨nI F.2.2, .inr u, va_up yyC 11 (setI (s 11) 0 0), eX8_text (fun C hC => ⟨s1, hB, hz C _ _ hC (bX8_text_39 hC ⟨s3, h3, fun z1 q1 z2 q2 => ?_⟩)⟩), o3, ⟨rfl, ?_, ?_, ?_, ?_, ?_, ?_⟩, ?_, ?_⟩
    · have := hn z1 z2 q1 q2
      subst this
      refine ⟨fun _ => ⟨_, hcp, fun z3 q3 => ?_⟩, fun q0 => absurd (by rw [a0]; exact m1) q0⟩
      have q3 : z3 = yyB := by
        rw [q3, eB]
        unfold stI
        rw [va_up_ne _ _ (show 7 ≠ 1 by decide), b7]
      rw [q3]
      refine bX8_text_110 hC ⟨fun q => absurd q (by decide), fun _ => ⟨vp_in_nI (n := 0) (by decide) (by decide), by decide, fun z4 q4 => ?_⟩⟩
      have q4 : z4 = yyC := by
        rw [q4, eC]
        show va_up yyB 10 (setI (yyB 10) 0 0) = _
        rw [c10]
      rw [q4, show (0 : Int32) + 1 = nI 1 by decide]
      refine bX8_text_110 hC ⟨fun q => absurd q (by decide), fun _ => ⟨vp_in_nI (n := 1) (by decide) (by decide), by decide, fun z5 q5 => ?_⟩⟩
      have q5 : z5 = va_up yyC 11 (setI (s 11) 0 0) := by
        rw [q5]
        show va_up yyC 11 (setI (yyC 11) 0 0) = _
        rw [c11]
      rw [q5, show nI 1 + 1 = nI 2 by decide]
      refine bX8_text_110 hC ⟨fun _ => ⟨?_, rfl⟩, fun q => absurd (by decide) q⟩
      rw [dO 17 (by decide) (by decide) (by decide) (by decide), a17, f3.2.1, n2]
    · rw [dO 0 (by decide) (by decide) (by decide) (by decide), a0]
      exact m1
    · rw [va_up_ne _ _ (by decide), eC, va_up_ne _ _ (by decide), eB, va_up_ne _ _ (by decide), va_up_self]
      exact hv1
    · rw [va_up_ne _ _ (by decide), eC, va_up_ne _ _ (by decide), eB, va_up_self]
    · rw [va_up_ne _ _ (by decide), eC, va_up_self]
    · rw [va_up_self]
    · intro o g1 g2 g3 g4 g5 g6 g7 g8
      exact (dO o g5 g6 g7 g8).trans ((aO o g1 g2).trans (fA o g2 g3 g4))
    · rw [dO 16 (by decide) (by decide) (by decide) (by decide)]
      exact a16
    · rw [dO 0 (by decide) (by decide) (by decide) (by decide)]
      exact a07
end TXH
