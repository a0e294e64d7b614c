/-! ASK, pure: how often a value stands among the first m -/
def al (g : Nat → Int32) (x : Int32) : Nat → Nat
  | 0 => 0
  | n + 1 => al g x n + (if x = g n then 1 else 0)
def mo (g : Nat → Int32) : Nat → Nat
  | 0 => 0
  | n + 1 => max (mo g n) (al g (g n) (n + 1))
def ws (g : Nat → Int32) (m : Nat) : Nat → Nat
  | 0 => 0
  | a + 1 => max (ws g m a) (al g (g a) m)
theorem al_le (g : Nat → Int32) (x : Int32) : ∀ n, al g x n ≤ n
  | 0 => Nat.le_refl 0
  | n + 1 => by
    have := al_le g x n
    show al g x n + (if x = g n then 1 else 0) ≤ n + 1
    by_cases c : x = g n
    · rw [if_pos c]; omega
    · rw [if_neg c]; omega
theorem mo_le (g : Nat → Int32) : ∀ n, mo g n ≤ n
  | 0 => Nat.le_refl 0
  | n + 1 => by
    have h1 := mo_le g n
    have h2 := al_le g (g n) (n + 1)
    show max (mo g n) (al g (g n) (n + 1)) ≤ n + 1
    omega
theorem ws_le (g : Nat → Int32) (m : Nat) : ∀ a, ws g m a ≤ m
  | 0 => Nat.zero_le _
  | a + 1 => by
    have h1 := ws_le g m a
    have h2 := al_le g (g a) m
    show max (ws g m a) (al g (g a) m) ≤ m
    omega
theorem mo_ub (g : Nat → Int32) : ∀ n x, al g x n ≤ mo g n
  | 0, _ => Nat.le_refl 0
  | n + 1, x => by
    have ih := mo_ub g n x
    by_cases c : x = g n
    · subst c
      exact Nat.le_max_right _ _
    · show al g x n + (if x = g n then 1 else 0) ≤ max (mo g n) (al g (g n) (n + 1))
      rw [if_neg c]
      omega
theorem al_mono (g : Nat → Int32) (x : Int32) (n : Nat) : al g x n ≤ al g x (n + 1) := Nat.le_add_right _ _
theorem mo_at (g : Nat → Int32) : ∀ n, mo g n = 0 ∨ ∃ a, a < n ∧ mo g n ≤ al g (g a) n
  | 0 => Or.inl rfl
  | n + 1 => by
    have e : mo g (n + 1) = max (mo g n) (al g (g n) (n + 1)) := rfl
    by_cases c : mo g n ≤ al g (g n) (n + 1)
    · exact Or.inr ⟨n, by omega, by omega⟩
    · rcases mo_at g n with h | ⟨a, h1, h2⟩
      · omega
      · have := al_mono g (g a) n
        exact Or.inr ⟨a, by omega, by omega⟩
theorem ws_ub (g : Nat → Int32) (m : Nat) : ∀ j a, a < j → al g (g a) m ≤ ws g m j
  | 0, _, h => absurd h (by omega)
  | j + 1, a, h => by
    show _ ≤ max (ws g m j) (al g (g j) m)
    by_cases e : a = j
    · subst e
      omega
    · have := ws_ub g m j a (by omega)
      omega
theorem ws_at (g : Nat → Int32) (m : Nat) : ∀ j, ws g m j = 0 ∨ ∃ a, a < j ∧ ws g m j ≤ al g (g a) m
  | 0 => Or.inl rfl
  | j + 1 => by
    have e : ws g m (j + 1) = max (ws g m j) (al g (g j) m) := rfl
    by_cases c : ws g m j ≤ al g (g j) m
    · exact Or.inr ⟨j, by omega, by omega⟩
    · rcases ws_at g m j with h | ⟨a, h1, h2⟩
      · omega
      · exact Or.inr ⟨a, by omega, by omega⟩
theorem mo_ws (g : Nat → Int32) (m : Nat) : mo g m = ws g m m := by
  apply Nat.le_antisymm
  · rcases mo_at g m with h | ⟨a, h1, h2⟩
    · omega
    · exact Nat.le_trans h2 (ws_ub g m m a h1)
  · rcases ws_at g m m with h | ⟨a, h1, h2⟩
    · omega
    · exact Nat.le_trans h2 (mo_ub g m _)
theorem al_congr {g g2 : Nat → Int32} (x : Int32) : ∀ n, (∀ c, c < n → g c = g2 c) → al g x n = al g2 x n
  | 0, _ => rfl
  | n + 1, h => by
    show al g x n + (if x = g n then 1 else 0) = al g2 x n + (if x = g2 n then 1 else 0)
    rw [al_congr x n (fun c hc => h c (by omega)), h n (by omega)]
theorem ws_congr {g g2 : Nat → Int32} (m : Nat) (h : ∀ c, c < m → g c = g2 c) : ∀ j, j ≤ m → ws g m j = ws g2 m j
  | 0, _ => rfl
  | j + 1, hj => by
    show max (ws g m j) (al g (g j) m) = max (ws g2 m j) (al g2 (g2 j) m)
    rw [ws_congr m h j (by omega), al_congr _ m h, h j (by omega)]
/-- how many of the first h are so; which is the c-th -/
def pc (B : Nat → Bool) : Nat → Nat
  | 0 => 0
  | h + 1 => pc B h + (if B h = true then 1 else 0)
def tbl (B : Nat → Bool) : Nat → Nat → Nat
  | 0, _ => 0
  | h + 1, c => if B h = true ∧ c = pc B h then h else tbl B h c
theorem pc_le (B : Nat → Bool) : ∀ h, pc B h ≤ h
  | 0 => Nat.le_refl 0
  | h + 1 => by
    have := pc_le B h
    show pc B h + (if B h = true then 1 else 0) ≤ h + 1
    by_cases c : B h = true
    · rw [if_pos c]; omega
    · rw [if_neg c]; omega
theorem pc_t {B : Nat → Bool} {h : Nat} (c : B h = true) : pc B (h + 1) = pc B h + 1 := by
  show pc B h + (if B h = true then 1 else 0) = _
  rw [if_pos c]
theorem pc_f {B : Nat → Bool} {h : Nat} (c : B h = false) : pc B (h + 1) = pc B h := by
  show pc B h + (if B h = true then 1 else 0) = _
  rw [if_neg (by rw [c]; decide)]
  rfl
theorem pc_mono {B : Nat → Bool} {h : Nat} (hb : B h = true) : ∀ j, h < j → pc B h + 1 ≤ pc B j
  | 0, hj => absurd hj (by omega)
  | j + 1, hj => by
    by_cases e : j = h
    · subst e
      rw [pc_t hb]
      omega
    · have := pc_mono hb j (by omega)
      have h2 : pc B j ≤ pc B (j + 1) := Nat.le_add_right _ _
      omega
theorem tbl_pc {B : Nat → Bool} {h : Nat} (hb : B h = true) : ∀ j, h < j → tbl B j (pc B h) = h
  | 0, hj => absurd hj (by omega)
  | j + 1, hj => by
    show (if B j = true ∧ pc B h = pc B j then j else tbl B j (pc B h)) = h
    by_cases e : j = h
    · subst e
      rw [if_pos ⟨hb, rfl⟩]
    · have := pc_mono hb j (by omega)
      rw [if_neg (fun q => by omega)]
      exact tbl_pc hb j (by omega)
theorem pc_inv {B : Nat → Bool} : ∀ (h c : Nat), c < pc B h → ∃ j, j < h ∧ B j = true ∧ pc B j = c
  | 0, c, hc => absurd hc (Nat.not_lt_zero _)
  | h + 1, c, hc => by
    cases hb : B h
    · rw [pc_f hb] at hc
      obtain ⟨j, h1, h2, h3⟩ := pc_inv h c hc
      exact ⟨j, by omega, h2, h3⟩
    · rw [pc_t hb] at hc
      by_cases e : c = pc B h
      · exact ⟨h, by omega, hb, e.symm⟩
      · obtain ⟨j, h1, h2, h3⟩ := pc_inv (B := B) h c (by omega)
        exact ⟨j, by omega, h2, h3⟩
/-! the bits -/
theorem b_1 (i : Nat) : bt 1 i = decide (i = 0) := by
  rcases Nat.lt_or_ge i 32 with h | h
  · exact (by decide +kernel : ∀ i, i < 32 → bt 1 i = decide (i = 0)) i h
  · rw [b_big h, decide_eq_false (by omega)]
theorem sh1 (x : Int32) {h : Nat} (hh : h < 32) : (x >>> (nI h &&& 31)) &&& 1 = b1 (bt x h) := by
  apply b_ext
  intro i hi
  rw [b_and, b_1, b_sshr h hh x hi]
  by_cases e : i = 0
  · subst e
    rw [decide_eq_true rfl, Bool.and_true, if_pos (by omega), Nat.add_zero]
    cases bt x h
    · exact (b_0 0).symm
    · exact (b_1 0).symm
  · rw [decide_eq_false e, Bool.and_false]
    cases bt x h
    · exact (b_0 i).symm
    · show false = bt 1 i
      rw [b_1, decide_eq_false e]
theorem agBits_bt (P : Nat → PS) (sa : Nat → Nat → Int32) (sn : Nat) : ∀ (k v : Nat) (x : Int32) (i : Nat), v + k ≤ 32 → i < 32 → bt (agBits P sa sn k v x) i = (bt x i || (decide (v ≤ i ∧ i < v + k) && ag (P i) sa sn 0))
  | 0, v, x, i, _, _ => by
    show bt x i = _
    rw [decide_eq_false (by omega), Bool.false_and, Bool.or_false]
  | k + 1, v, x, i, hv, hi => by
    show bt (agBits P sa sn k (v + 1) _) i = _
    rw [agBits_bt P sa sn k (v + 1) _ i (by omega) hi]
    by_cases c : ag (P v) sa sn 0 = true
    · rw [if_pos c, b_or, b_shl v (by omega) 1 hi, b_1]
      by_cases e : i = v
      · subst e
        rw [c]
        simp
      · have e1 : decide (v + 1 ≤ i ∧ i < v + 1 + k) = decide (v ≤ i ∧ i < v + (k + 1)) := by
          congr 1
          apply propext
          omega
        have e2 : (decide (v ≤ i) && decide (i - v = 0)) = false := by
          rw [← Bool.decide_and]
          exact decide_eq_false (by omega)
        rw [e1, e2, Bool.or_false]
    · rw [if_neg c]
      by_cases e : i = v
      · subst e
        rw [bool_f c]
        simp
      · have e1 : decide (v + 1 ≤ i ∧ i < v + 1 + k) = decide (v ≤ i ∧ i < v + (k + 1)) := by
          congr 1
          apply propext
          omega
        rw [e1]
theorem ag10_bt (P : Nat → PS) (sa : Nat → Nat → Int32) (sn : Nat) {i : Nat} (hi : i < 32) : bt (agBits P sa sn 10 0 0) i = (decide (i < 10) && ag (P i) sa sn 0) := by
  rw [agBits_bt P sa sn 10 0 0 i (by omega) hi, b_0, Bool.false_or]
  congr 2
  apply propext
  omega
theorem bit8_pc (B : Nat → Bool) (x : Int32) : ∀ (k i : Nat), i + k ≤ 32 → (∀ j, j < i + k → bt x j = B j) → bit8 k i x (nI (pc B i)) = nI (pc B (i + k))
  | 0, i, _, _ => rfl
  | k + 1, i, hk, hb => by
    show bit8 k (i + 1) x (nI (pc B i) + ((x >>> (nI i &&& 31)) &&& 1)) = _
    rw [sh1 x (by omega), hb i (by omega)]
    have e : nI (pc B i) + b1 (B i) = nI (pc B (i + 1)) := by
      cases c : B i
      · rw [pc_f c]
        show nI (pc B i) + 0 = _
        rw [Int32.add_zero]
      · rw [pc_t c]
        exact nI_1 _
    rw [e]
    have := bit8_pc B x k (i + 1) (by omega) (fun j hj => hb j (by omega))
    rw [this]
    congr 1
    congr 1
    omega
theorem bitC_ag (P : Nat → PS) (sa : Nat → Nat → Int32) (sn : Nat) : bitC (agBits P sa sn 10 0 0) = nI (pc (fun h => ag (P h) sa sn 0) 10) := by
  have e1 : agBits P sa sn 10 0 0 &&& (1023 : Int32) = agBits P sa sn 10 0 0 := by
    apply b_ext
    intro i hi
    have b3 : bt (1023 : Int32) i = decide (i < 10) := (by decide +kernel : ∀ i, i < 32 → bt (1023 : Int32) i = decide (i < 10)) i hi
    rw [b_and, b3, ag10_bt P sa sn hi]
    cases decide (i < 10) <;> cases ag (P i) sa sn 0 <;> rfl
  obtain ⟨j, hj, e2⟩ := pk_andE (agBits P sa sn 10 0 0) (m := 1023) 10 (by decide)
  rw [e1] at e2
  have e3 := bitC_10 (k := j) (by omega)
  rw [← e2] at e3
  rw [e3]
  have := bit8_pc (fun h => ag (P h) sa sn 0) (agBits P sa sn 10 0 0) 10 0 (by omega) (fun i hi => by
    rw [ag10_bt P sa sn (by omega), decide_eq_true (by omega), Bool.true_and])
  exact this
/-! the search -/
def asS (w : Nat → Nat) (nr : Nat) : Nat → Nat → Option Nat → Nat → Option Nat × Nat
  | 0, _, fo, fw => (fo, fw)
  | c + 1, k, fo, fw => if k % 4 < nr ∧ w k < fw then asS w nr c (k + 1) (some k) (w k) else asS w nr c (k + 1) fo fw
theorem asS_skip (w : Nat → Nat) (nr : Nat) : ∀ (j c k : Nat) (fo : Option Nat) (fw : Nat), (∀ i, i < j → nr ≤ (k + i) % 4) → asS w nr (c + j) k fo fw = asS w nr c (k + j) fo fw
  | 0, _, _, _, _, _ => rfl
  | j + 1, c, k, fo, fw, h => by
    have h0 := h 0 (by omega)
    rw [Nat.add_zero] at h0
    show (if k % 4 < nr ∧ w k < fw then asS w nr (c + j) (k + 1) (some k) (w k) else asS w nr (c + j) (k + 1) fo fw) = _
    rw [if_neg (fun q => by omega), asS_skip w nr j c (k + 1) fo fw (fun i hi => by
      have := h (i + 1) (by omega)
      rw [show k + 1 + i = k + (i + 1) by omega]
      exact this)]
    rw [show k + 1 + j = k + (j + 1) by omega]
def evl (x : Int32) : Nat := if x = -4 then 8 else bk x
def enc (x : Int32) : Int32 := if x = -4 then 8 else x
theorem evl_nI {nb : Nat} {x : Int32} (h : okB nb x) (h8 : nb ≤ 8) : enc x = nI (evl x) ∧ evl x ≤ 8 := by
  unfold enc evl
  by_cases c : x = -4
  · rw [if_pos c, if_pos c]
    exact ⟨rfl, Nat.le_refl _⟩
  · rw [if_neg c, if_neg c]
    have := okB_bk h c h8
    exact ⟨this.2, by omega⟩
theorem evl_inj {nb : Nat} {x y : Int32} (hx : okB nb x) (hy : okB nb y) (h8 : nb ≤ 8) (e : evl x = evl y) : x = y := by
  unfold evl at e
  by_cases c : x = -4
  · by_cases c2 : y = -4
    · rw [c, c2]
    · rw [if_pos c, if_neg c2] at e
      have := okB_bk hy c2 h8
      omega
  · have h1 := okB_bk hx c h8
    by_cases c2 : y = -4
    · rw [if_neg c, if_pos c2] at e
      omega
    · rw [if_neg c, if_neg c2] at e
      have h2 := okB_bk hy c2 h8
      rw [h1.2, h2.2, e]
theorem itp_ok {nb nr r n : Nat} {p : PS} (hp : PI nb nr p) (hr : r < nr) : okB nb (itp n p r).1 := by
  have := (PI_days (nb := nb) (nr := nr) n (q := (p, (0 : Int32), (0 : Int32))) hp).2.2.1 r hr
  rw [(days_it nr hr n (p, 0, 0)).1] at this
  exact this
theorem mmax_nI {a b : Nat} (ha : a < 2 ^ 31) (hb : b < 2 ^ 31) : mmax (nI a) (nI b) = nI (max a b) := by
  unfold mmax
  by_cases c : a < b
  · rw [if_pos (nI_lt c hb)]
    congr 1
    omega
  · rw [if_neg (nI_nlt (by omega) (by omega))]
    congr 1
    omega
