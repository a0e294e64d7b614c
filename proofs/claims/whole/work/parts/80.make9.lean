/-! THE REFERENCE'S CONSTRUCTOR: the store stands, and the relation -/
def q9 (ad : ZA) (D : va_G) (ia : Nat → ClassId) (b0 : Nat) (s2 : ZS) : Array Value → State → Outcome → State → Prop := fun _ st oc t => (oc = .returned none ∧ zW ad D ia s2 t.heap) ∧ va_F (yA b0) st t
def p9 (ad : ZA) (D : va_G) (ia : Nat → ClassId) (b0 : Nat) : State → Prop := fun U => yP D ia b0 (b0 + 95) (es9 ia b0) 94 (.inr (9, [.null, .null, .null, .int 0, .int 0, .null, .int 0, .int 0, .int 0, .int 0, .null, .int 0, .int 0, .int 0, .int 0, .int 0, .int 0, .int 0, .int 0, .int 0, .int 0, .int 0, .null, .null, .long 0, .long 0, .long 0, .null, .null, .null, .null, .null, .int 0, .null])) U ∧ (∀ w ∈ zNW, va_Nw w U) ∧ zTx ad U
theorem mk9 {l : Launch} {D : va_G} {ia : Nat → ClassId} {b0 : Nat} {a30 a31 : Nat → Nat} : ∃ s2, RR s2 ∧ Met l mX9_init.1 (.code mX9_init.1 mX9_init.2.1 mX9_init.2.2.1 none :: WL) (yrm 9 13 1634) (va_Pc [.ref (b0 + 94)] (p9 (adz b0 a30 a31) D ia b0)) (q9 (adz b0 a30 a31) D ia b0 s2) 13 1634 (yA b0) := by
  obtain ⟨v1, hE1, a5, ⟨a6, a7, a8, a9⟩, ak, ar⟩ := mv_firstDraft (l := l) (ad := adz b0 a30 a31) (D := D) (ia := ia) (d := 8) (s := zs0) (zs0 20)
  rw [up_id] at hE1
  obtain ⟨v2, hE2, c0', ⟨c3, c4'⟩, c2, ck, cr⟩ := mv_keepDraft (l := l) (ad := adz b0 a30 a31) (D := D) (ia := ia) (d := 8) (s := zs0) v1
  refine ⟨va_up zs0 20 v2, RR0 a5 ⟨a6, a7⟩ ak ar c0' ⟨c3, c4'⟩ c2 ck cr, ?_⟩
  refine Met.ofW (cc := cX9_init) (maxL := 2) (ret := none) (by decide +kernel) rfl ?_
  intro p e s0 m args below meth c s1 B hml hv
  obtain ⟨rfl, ⟨hKK, hw0⟩, hzn, htx⟩ := hv
  have hts0 := atoms_spec (ws := .code mX9_init.1 mX9_init.2.1 mX9_init.2.2.1 none :: WL) B.pre
  have hts : ∀ w ∈ WL, w.before [Value.ref (b0 + 94)].toArray s0 = true := fun w h => hts0 w (List.mem_cons_of_mem _ h)
  have hx := B.exec
  have hb := B.bytes
  have hown : s0.vm.findClass RX9 = some m.cls := findClass_of_methodNamed B.named
  have hKz : zK (adz b0 a30 a31) D ia s0 := ⟨adz_nd, hKK.1, hzn, htx⟩
  have hsz : s0.heap.size = b0 + 95 := hw0.2.1
  have hC : Yok D ia (p, e, yrm 9 13 1634, s0, m, [Value.ref (b0 + 94)].toArray, below, meth, c) (8 + 1) 13 1634 cX9_init 2 RX9 := ⟨hx, hb, hml, hown, hts, B.returns, B.notSynchronized, rfl, (name_of_methodNamed B.named B.method).1, hKK⟩
  have hA2 : ∀ a, a < s0.heap.size → ¬ zAd (adz b0 a30 a31) a → ¬ yA b0 a := fun a h1 h2 h3 => h2 (adz_cov h3 (by omega))
  have hY : Y l D (p, e, yrm 9 13 1634, s0, m, [Value.ref (b0 + 94)].toArray, below, meth, c) 13 1634 b0 (b0 + 95) (es9 ia b0) 94 (q9 (adz b0 a30 a31) D ia b0 (va_up zs0 20 v2)) 128 [(1, .int 4), (0, .ref (b0 + 94))] [] (po9 (b0 + 95)) (bl9 ia (b0 + 95)) 1634 := by
    intro H locs ls hw hS hl
    have hz : zW (adz b0 a30 a31) D ia zs0 H := zW_of (es9_at hw)
    refine lv_aload_n hx hb dX9_init_128 rfl (hl.2.2 (0, .ref (b0 + 94)) (by simp)) ?_
    refine w_call (A := yA b0) (o := 20) (d := 8) (As := []) (rest := []) hx hb hts hown hKz adz_A hA2 hz hS hl.1 hE1 cvX9_50 ⟨9, rfl, zs_9, _, rfl, rfl⟩ rfl rfl (Nat.le_of_ble_eq_true rfl) ⟨Nat.le_of_ble_eq_true rfl, Nat.le_of_ble_eq_true rfl⟩ ⟨Nat.le_of_ble_eq_true rfl, Nat.le_refl _⟩ dX9_init_129 (fun H1 locs1 hw1 hS1 => ?_)
    refine lv_aload_n hx hb dX9_init_132 rfl (hl.2.2 (0, .ref (b0 + 94)) (by simp)) ?_
    refine w_call (A := yA b0) (o := 20) (d := 8) (As := []) (rest := []) hx hb hts hown hKz adz_A hA2 hw1 hS1 hl.1 hE2 cvX9_53 ⟨9, rfl, zs_9, _, rfl, rfl⟩ rfl rfl (Nat.le_of_ble_eq_true rfl) ⟨Nat.le_of_ble_eq_true rfl, Nat.le_of_ble_eq_true rfl⟩ ⟨Nat.le_of_ble_eq_true rfl, Nat.le_refl _⟩ dX9_init_133 (fun H2 locs2 hw2 hS2 => ?_)
    exact W.vret hx hb B.returns (fun t ht hW => ⟨⟨rfl, by rw [ht]; exact hw2⟩, hS2.F ht⟩) hS2.2.2 dX9_init_136 B.notSynchronized
  have hZ := mk9_a hC hY
  have hl := lv_entry [Value.ref (b0 + 94)] (n := 2) (Nat.le_of_ble_eq_true rfl)
  rw [lg_entry_eq]
  exact hZ s0.heap [] _ hw0 va_S.rf (by rw [hml]; exact hl)
