/-! A CALL of the store's methods from outside its layers; the starting store; the reference's constructor -/
section WCALL
variable {p : Program} {l : Launch} {e : Env} {R : Room} {s0 : State} {m : MethodId} {args : Array Value} {below : List Frame} {meth : Method} {c : Code} {H : Heap} {locs : List Loc} {cells slots : Nat} {Q : State → Prop} {cc : ByteArray} {pc : Nat} {ls : Array Slot} {St rest : List Value} {ad : ZA} {D : va_G} {ia : Nat → ClassId} {s : ZS} {A : Nat → Prop} {nL : Nat}
theorem w_call (hx : p.tables.exec = Jvm.exec) (hb : c.code = cc) (hts : ∀ w ∈ WL, w.before args s0 = true) {own : String} (hown : s0.vm.findClass own = some m.cls) (hKK : zK ad D ia s0) (hA1 : ∀ a, zAd ad a → A a) (hA2 : ∀ a, a < s0.heap.size → ¬ zAd ad a → ¬ A a) (hw : zW ad D ia s H) (hS : va_S A s0.heap H locs) (hls : ls.size = c.maxLocals) {M : ZM} {idx n o d : Nat} {As : List Value} {X1 : Option Value} {Y1 : ZS} (hE : Ev l ad D ia d M (.ref (ad o 0) :: As) s X1 Y1) (lk : zcV own idx M n) (hoc : ∃ c, zcls o = c ∧ 0 ∈ zsub c ∧ ∃ q : vw_C, vwCl[c]? = some q ∧ q.1 = M.1.cls) (hn : As.length = n) (hst : St = As.reverse ++ .ref (ad o 0) :: rest) (hW : (rest.map fun v => v.category).sum ≤ 8) (hR : d + 1 ≤ R.frames ∧ 38 + 38 * d ≤ R.locals) (hf : cells ≤ R.cells ∧ slots ≤ R.slots) (dd : decode cc pc = .ok (.invokevirtual idx, 3))
    (kk : ∀ (H1 : Heap) (locs1 : List Loc), zW ad D ia Y1 H1 → va_S A s0.heap H1 locs1 → W p l e R s0 m args below meth c H1 locs1 cells slots Q (F0 m (pc + 3) ls (X1.toList ++ rest))) : W p l e R s0 m args below meth c H locs cells slots Q (F0 m pc ls St) := by
  obtain ⟨hwd, hd, hm⟩ := lk
  have hRm : (zrm d).frames + 1 ≤ R.frames ∧ 8 + (M.2.2.1 + 11) + (zrm d).locals ≤ R.locals := ⟨hR.1, by simp only [zrm]; omega⟩
  have cw := cwV (C := M.1.cls) (ws := .code M.1 M.2.1 M.2.2.1 M.2.2.2 :: WL) (rm := zrm d) (mc := 0) (ms := 0) (R := R) n hts (fun w h => by
    simp only [wsV, List.mem_append, List.mem_cons, List.not_mem_nil, or_false] at h
    rcases h with (rfl | rfl | rfl | rfl) | h
    · exact zWL_good _ hwd.1
    · exact zWL_good _ hwd.2.1
    · exact zWL_good _ hwd.2.2.1
    · exact zWL_good _ hwd.2.2.2.1
    · exact zgood hwd.2.2.2.2 (fun _ h => h) w (List.mem_cons.mpr h)) rfl rfl rfl ⟨rfl, hd⟩ hRm
  have hrecv : ∃ cellB : Cell, H[ad o 0]? = some cellB ∧ cellB.vm.isStatics = false ∧ s0.vm.findClass M.1.cls = some cellB.cls := by
    obtain ⟨c, hoc, hc0, q, hq, hq1⟩ := hoc
    obtain ⟨f, hf, hP⟩ := id hw
    obtain ⟨q0, -, he⟩ := zget hf (o := o) (k := 0) (zmem (by rw [hoc]; exact hc0))
    have he : (va_pl (zLL ad) f)[q0]? = some (ad o 0, .inr (c, zfs ad c o (s o))) := by rw [he]; simp only [zce, hoc]
    rw [← hq1]
    exact va_recv hKK.2.1 hP hq he
  have hrun := va_runV (Ts := WL) (nL := c.maxLocals) (g := F0 m pc ls St) (rest := rest) (As := As) (cells := cells) (slots := slots) (locs := locs) (e := e) (below := below) (meth := meth) ⟨hx, hb, rfl, hown, hts⟩ hE cw ⟨zblind, hrecv, fun U hU hWm => ⟨rfl, zK_warm hWm (fun a h1 h2 => by rw [hU]; exact hS.2.1 a h1 (hA2 a h1 h2)) hKK, by rw [hU]; exact hw⟩⟩ rfl hn hls hst (by simpa using hW) dd ⟨hf.1, hf.2⟩
  intro T hT Xs
  obtain ⟨v, st0, t, T2, L, h0, X2, hL, e1, e2, ⟨⟨hv, hwt⟩, hz, hk⟩, st⟩ := hrun T hT Xs
  cases hv
  rw [h0] at hz hk
  obtain ⟨t2, a1, b1⟩ := kk T2.heap (locs ++ L) (by rw [e1]; exact hwt)
    ⟨Nat.le_trans hS.1 (by rw [e1]; exact hz), fun q h1 h2 => by rw [e1, hk q (Nat.lt_of_lt_of_le h1 hS.1) (fun z => h2 (hA1 q z))]; exact hS.2.1 q h1 h2, fun q hq => by
      rcases List.mem_append.mp hq with h | h
      · exact hS.2.2 q h
      · exact hA1 _ (hL q h)⟩ T2 rfl X2
  exact ⟨t2, st t2 a1, b1⟩
end WCALL
theorem adz_cov {b0 : Nat} {a30 a31 : Nat → Nat} {a : Nat} (h1 : b0 ≤ a) (h2 : a < b0 + 108) : zAd (adz b0 a30 a31) a := by
  have hc : ∀ i, i < 108 → invz.getD i (0, 0) ∈ zCL ∧ offz (invz.getD i (0, 0)).1 (invz.getD i (0, 0)).2 = i := by decide +kernel
  obtain ⟨g1, g2⟩ := hc (a - b0) (by omega)
  refine List.mem_map.mpr ⟨_, g1, ?_⟩
  show adz b0 a30 a31 (invz.getD (a - b0) (0, 0)).1 (invz.getD (a - b0) (0, 0)).2 = a
  rw [adz_off _ g1, g2]
  omega
/-- the relation holds at the start -/
theorem RR0 {v1 v2 : OV} (h5 : ∀ j, j < 62 → v1.2.2 5 j = 0) (h67 : v1.1 6 = 0 ∧ v1.1 7 = 0) (hk : ∀ k, k < 6 ∨ 9 < k → v1.1 k = (zs0 20).1 k) (hr : ∀ r, r ≠ 5 → v1.2.2 r = (zs0 20).2.2 r) (g0 : ∀ j, j < 62 → v2.2.2 0 j = v1.2.2 5 j) (g34 : v2.1 3 = v1.1 6 ∧ v2.1 4 = v1.1 7) (g2 : v2.2.2 2 0 = 0 ∧ v2.2.2 2 1 = 0) (gk : ∀ k, k ≠ 3 → k ≠ 4 → v2.1 k = v1.1 k) (gr : ∀ r, r ≠ 0 → r ≠ 2 → v2.2.2 r = v1.2.2 r) : RR (va_up zs0 20 v2) := by
  have e : ∀ o, o ≠ 20 → va_up zs0 20 v2 o = zs0 o := fun o ho => va_up_ne _ _ ho
  have r0 : rng 0 0 7 ∧ rng 0 0 9999 ∧ rng 0 0 999 := ⟨⟨0, by decide, by decide, rfl⟩, ⟨0, by decide, by decide, rfl⟩, ⟨0, by decide, by decide, rfl⟩⟩
  refine ⟨0, 0, p00, 0, (fun _ => 0), 0, 0, (fun _ _ => 0), (fun _ => (0, p00, 0, fun _ _ => 0)), (fun _ => (-4, 0, fun _ => 0)), 0, ⟨⟨⟨⟨by decide, by decide⟩, fun b hb => absurd hb (Nat.not_lt_zero b), fun r hr => absurd hr (Nat.not_lt_zero r), fun b hb => absurd hb (Nat.not_lt_zero b)⟩, fun b hb => absurd hb (Nat.not_lt_zero b), fun r hr => absurd hr (Nat.not_lt_zero r), r0.1, r0.2.1, r0.2.2⟩, ⟨by decide, fun i hi => absurd hi (Nat.not_lt_zero i)⟩, ⟨by decide, fun i hi => absurd hi (Nat.not_lt_zero i)⟩, fun k hk => ⟨Or.inl rfl, fun q => absurd rfl q⟩, fun k hk => ⟨Or.inl rfl, ⟨0, by decide, by decide, rfl⟩⟩⟩, ⟨⟨0, 0, ?_⟩, ⟨?_, fun i hi => absurd hi (Nat.not_lt_zero i)⟩, ?_, ⟨?_, fun i j hi => absurd hi (Nat.not_lt_zero i)⟩, ?_, ?_⟩, ?_⟩
  · rw [e 1 (by decide)]
    refine ⟨⟨rfl, rfl⟩, fun c hc b hb => absurd hb (Nat.not_lt_zero b), fun c hc r hr => absurd hr (Nat.not_lt_zero r), fun j hj => ?_, rfl, rfl⟩
    rcases (show j = 0 ∨ j = 1 ∨ j = 2 by omega) with rfl | rfl | rfl <;> rfl
  · rw [e 16 (by decide)]
    rfl
  · rw [e 0 (by decide)]
    exact ⟨rfl, rfl⟩
  · rw [e 7 (by decide)]
    rfl
  · intro k hk
    refine ⟨?_, fun q => absurd rfl q⟩
    rw [e (10 + k) (by omega)]
    rcases (show k = 0 ∨ k = 1 by omega) with rfl | rfl <;> rfl
  · intro k hk
    rw [e (12 + k) (by omega)]
    rcases (show k = 0 ∨ k = 1 ∨ k = 2 ∨ k = 3 by omega) with rfl | rfl | rfl | rfl <;> exact ⟨rfl, rfl, fun i hi => rfl⟩
  · rw [va_up_self]
    have z : ∀ j, j < 62 → v2.2.2 0 j = 0 := fun j hj => by rw [g0 j hj, h5 j hj]
    refine ⟨⟨by rw [g34.1, h67.1]; rfl, by rw [g34.2, h67.2]; rfl⟩, ⟨by rw [gk 11 (by decide) (by decide), hk 11 (by decide)]; rfl, fun i hi => absurd hi (Nat.not_lt_zero i)⟩, ⟨by rw [gk 16 (by decide) (by decide), hk 16 (by decide)]; rfl, by rw [gk 32 (by decide) (by decide), hk 32 (by decide)]; rfl⟩, ⟨⟨fun c hc b hb => absurd hb (Nat.not_lt_zero b), fun c hc r hr => absurd hr (Nat.not_lt_zero r), fun j hj => ?_⟩, ?_, fun i j hi => absurd hi (Nat.not_lt_zero i)⟩, ?_, ?_⟩
    · show v2.2.2 0 (0 + (40 + j)) = 0
      exact z _ (by omega)
    · exact z _ (by omega)
    · intro k hk
      refine ⟨?_, fun q => absurd rfl q⟩
      rcases (show k = 0 ∨ k = 1 by omega) with rfl | rfl
      · exact g2.1
      · exact g2.2
    · intro k hk
      rw [gr 29 (by decide) (by decide), gr 30 (by decide) (by decide), gr 31 (by decide) (by decide), hr 29 (by decide), hr 30 (by decide), hr 31 (by decide)]
      rcases (show k = 0 ∨ k = 1 ∨ k = 2 ∨ k = 3 by omega) with rfl | rfl | rfl | rfl <;> exact ⟨by decide, rfl, fun i hi => rfl⟩
def es9 (ia : Nat → ClassId) (b0 : Nat) : List va_E := po8 (b0 + 1) :: (bl8 ia (b0 + 1) ++ [.inr (9, [.null, .null, .null, .int 0, .int 0, .null, .int 0, .int 0, .int 0, .int 0, .null, .int 0, .int 0, .int 0, .int 0, .int 0, .int 0, .int 0, .int 0, .int 0, .int 0, .int 0, .null, .null, .long 0, .long 0, .long 0, .null, .null, .null, .null, .null, .int 0, .null])])
theorem es9_len (ia : Nat → ClassId) (b0 : Nat) : (es9 ia b0).length = 95 := rfl
/-- the cells made by both constructors, by their places -/
theorem es9_at {D : va_G} {ia : Nat → ClassId} {b0 : Nat} {H : Heap} (h : Yw D b0 (b0 + 95) (es9 ia b0) 94 (po9 (b0 + 95)) (bl9 ia (b0 + 95)) H) : ∀ i e, (zes ia b0)[i]? = some e → va_at D vwCl (b0 + i, e) H := by
  intro i e hi
  have l8 : (bl8 ia (b0 + 1)).length = 93 := rfl
  unfold zes at hi
  by_cases c1 : i < 94
  · have h2 : (es9 ia b0)[i]? = some e := by
      unfold es9
      cases i with
      | zero => exact hi
      | succ i =>
        rw [List.getElem?_cons_succ, List.getElem?_append_left (by omega)] at hi ⊢
        exact hi
    exact h.2.2.1 i e (by omega) h2
  · cases i with
    | zero => omega
    | succ i =>
      rw [List.getElem?_cons_succ, List.getElem?_append_right (by omega), l8] at hi
      by_cases c2 : i = 93
      · subst c2
        cases hi
        exact h.2.2.2.1
      · obtain ⟨j, rfl⟩ : ∃ j, i = j + 94 := ⟨i - 94, by omega⟩
        rw [show j + 94 - 93 = j + 1 by omega, List.getElem?_cons_succ] at hi
        have := h.2.2.2.2 j e hi
        rw [show b0 + (j + 94 + 1) = b0 + 95 + j by omega]
        exact this
