/-! THE LAW, from its entry (laid by wip/glaw.py) -/
section WCI
variable {p : Program} {l : Launch} {e : Env} {R : Room} {s : State} {m : MethodId} {args : Array Value} {below : List Frame} {meth : Method} {c : Code} {H : Heap} {locs : List Loc} {cells slots : Nat} {Q : State → Prop} {cc : ByteArray} {pc : Nat} {ls : Array Slot} {rest : List Value} {A : Nat → Prop}
theorem w_callI (hx : p.tables.exec = Jvm.exec) (hb : c.code = cc) (hts : ∀ w ∈ WL, w.before args s = true) {own : String} (hown : s.vm.findClass own = some m.cls) (hS : va_S A s.heap H locs) (hls : ls.size = c.maxLocals) {M : ZM} {idx a mc ms : Nat} {P0 : State → Prop} {Qh : Heap → Prop} (hM : Met l M.1 (.code M.1 M.2.1 M.2.2.1 none :: WL) (yrm 9 mc ms) (va_Pc [.ref a] P0) (fun _ st oc t => (oc = .returned none ∧ Qh t.heap) ∧ va_F A st t) mc ms A) (hbl : ∀ (av : Array Value) (U : State) (g : JFrame) (mk : MethodId), P0 U → P0 (U.calling g mk av)) (hP : ∀ U : State, U.heap = H → s.WarmedH U.vm → P0 U) (h1 : Cond.methodLink own idx M.1 ∈ WL) (h2 : Cond.instanceMethod M.1 ∈ WL) (h3 : Cond.initialized M.1.cls ∈ WL) (h4 : Cond.code M.1 M.2.1 M.2.2.1 none ∈ WL) (hd : (M.1.cls ≠ "java/lang/invoke/MethodHandle" ∧ M.1.cls ≠ "java/lang/invoke/VarHandle" ∧ (parseMethodDescriptor M.1.desc).map (fun d => d.parameters.length) = some 0) ∧ M.2.2.1 ≤ 19) (hin : M.1.name = "<init>") (hR : 10 ≤ R.frames ∧ 382 ≤ R.locals) (hf : cells + mc ≤ R.cells ∧ slots + ms ≤ R.slots) (hW : (rest.map fun v => v.category).sum ≤ 8) (dd : decode cc pc = .ok (.invokespecial idx, 3))
    (kk : ∀ (H1 : Heap) (locs1 : List Loc), Qh H1 → va_S A s.heap H1 locs1 → W p l e R s m args below meth c H1 locs1 (cells + mc) (slots + ms) Q (F0 m (pc + 3) ls rest)) : W p l e R s m args below meth c H locs cells slots Q (F0 m pc ls (.ref a :: rest)) := by
  have hg : GoodIn WL (.code M.1 M.2.1 M.2.2.1 none :: WL) := fun w h => by
    rcases List.mem_cons.mp h with rfl | h
    · exact zWL_good _ h4
    · exact zWL_good w h
  have cw := cwI (own := own) (index := idx) (args := args) (s := s) (R := R) (rm := yrm 9 mc ms) (mc := mc) (ms := ms) (ws := .code M.1 M.2.1 M.2.2.1 none :: WL) 0 hts hg rfl rfl rfl (hts _ h3) (hts _ h1) (hts _ h2) hin hd.1 ⟨hR.1, by simp only [yrm]; omega⟩
  have hrun := va_runI (Ts := WL) (nL := c.maxLocals) (g := F0 m pc ls (.ref a :: rest)) (rest := rest) (As := []) (b := a) (cells := cells) (slots := slots) (locs := locs) (e := e) (below := below) (meth := meth) ⟨hx, hb, rfl, hown, hts⟩ hM cw ⟨fun av U g mk q => ⟨q.1, hbl av U g mk q.2⟩, fun U hU hWm => ⟨rfl, hP U hU hWm⟩⟩ rfl rfl hls rfl (by simpa using hW) dd hf
  intro T hT Xs
  obtain ⟨v, st0, t, T2, L, h0, X2, hL, g1, g2, ⟨⟨hv, hwt⟩, hz, hk⟩, st⟩ := hrun T hT Xs
  cases hv
  rw [h0] at hz hk
  obtain ⟨t2, a1, b1⟩ := kk T2.heap (locs ++ L) (by rw [g1]; exact hwt) ⟨Nat.le_trans hS.1 (by rw [g1]; exact hz), fun q h1 h2 => by rw [g1, hk q (Nat.lt_of_lt_of_le h1 hS.1) h2]; exact hS.2.1 q h1 h2, fun q hq => by
      rcases List.mem_append.mp hq with h | h
      · exact hS.2.2 q h
      · exact hL q h⟩ T2 rfl X2
  exact ⟨t2, st t2 a1, b1⟩
end WCI
theorem p9_call {ad : ZA} {D : va_G} {ia : Nat → ClassId} {b0 : Nat} {U : State} {g : JFrame} {mk : MethodId} {a : Array Value} (h : p9 ad D ia b0 U) : p9 ad D ia b0 (U.calling g mk a) := ⟨⟨yK_call h.1.1, h.1.2⟩, fun w hw => va_Nw.same (u := U) (U := U.calling g mk a) (by revert w; decide +kernel) rfl (h.2.1 w hw), fun i hi => vk_R.same (u := U) (U := U.calling g mk a) rfl (h.2.2.1 i hi), vk_S.moved (u := U) (U := U.calling g mk a) (Vm.Alike.refl U.vm) h.2.2.2.1, va_Z.moved (u := U) (U := U.calling g mk a) (Vm.Alike.refl U.vm) h.2.2.2.2.1, va_Zq.moved (u := U) (U := U.calling g mk a) (Vm.Alike.refl U.vm) h.2.2.2.2.2⟩
set_option maxRecDepth 100000 in
set_option maxHeartbeats 4000000 in
/-- THE LAW, from its entry -/
theorem whole_start {p : Program} {e : Env} {s : State} {m : MethodId} {below : List Frame} {meth : Method} {c : Code} (l : Launch) {b L : Nat} {xs : Nat → Int32} (hL : L ≤ 2560) (C0 : lw_At p s m meth c b L xs) : W p l e room_1 s m #[Value.ref b] below meth c s.heap [] 0 0 (lw_Z below #[Value.ref b] s) (entryFrame m ([Value.ref b] : List Value).toArray 4) := by
  obtain ⟨hx, hb, hr, hml, hown, hts0, hX, hbl, hlocks, hgv⟩ := id C0
  have hts := lw_WL hts0
  obtain ⟨D, ia, a30, a31, hKy, hzn, hTx⟩ := ybegin hts0 hgv
  have hKz : zK (adz s.heap.size a30 a31) D ia s := ⟨adz_nd, hKy.1, hzn, hTx.1, hTx.2.1.narrow adz_A, hTx.2.2.1.narrow adz_A, hTx.2.2.2.narrow adz_A⟩
  have hA : lwA p s m meth c b L xs D ia a30 a31 := ⟨C0, hL, hKz⟩
  have hl := lv_entry [Value.ref b] (n := 4) (Nat.le_of_ble_eq_true rfl)
  rw [lg_entry_eq]
  generalize (lg_sl [Value.ref b] ++ List.replicate (4 - (lg_sl [Value.ref b]).length) Slot.unset).toArray = ls at hl ⊢
  have hl : lv_has ls 4 [(0, .ref b)] := hl
  have hS0 : va_S (yA s.heap.size) s.heap s.heap [] := va_S.rf
  -- new UpperSteps
  have k8 := hKy.1.1 8 _ rfl
  refine W.newcK hx hb hown (hts _ (wlm 71 (by decide +kernel) (by decide +kernel))) (hts _ (wlm (w := .instantiable RX8 12) 72 (by decide +kernel) (by decide +kernel))) (hts _ (wlm 54 (by decide +kernel) (by decide +kernel))) rfl dL_law_0 (Nat.le_of_ble_eq_true rfl) (Nat.le_of_ble_eq_true rfl) k8.2.1 rfl fun H1 kC hkC g1 z1 o1 => ?_
  have at8 : va_at D vwCl (s.heap.size, .inr (8, [.null, .null, .null, .int 0, .null, .null, .null, .int 0, .null, .null, .null, .null])) H1 := ⟨_, rfl, (u_born tyX8 hts inWX8 k8 hkC g1 tyX8_ok).to (fun j hj => match j, hj with | 0, _ => rfl | 1, _ => rfl | 2, _ => rfl | 3, _ => rfl | 4, _ => rfl | 5, _ => rfl | 6, _ => rfl | 7, _ => rfl | 8, _ => rfl | 9, _ => rfl | 10, _ => rfl | 11, _ => rfl | j + 12, h => absurd h (by simp))⟩
  have hS1 : va_S (yA s.heap.size) s.heap H1 [] := ⟨by rw [z1]; omega, fun q h1 _ => o1 q h1, fun _ h => absurd h List.not_mem_nil⟩
  have hY1 : Yw D s.heap.size (s.heap.size + 1) [.inr (8, [.null, .null, .null, .int 0, .null, .null, .null, .int 0, .null, .null, .null, .null])] 0 (.inr (8, [.null, .null, .null, .int 0, .null, .null, .null, .int 0, .null, .null, .null, .null])) [] H1 := ⟨⟨rfl, by decide⟩, z1, fun i e hi he => by
    have hz : i < 1 := (List.getElem?_eq_some_iff.mp he).1
    omega, at8, fun i e he => by simp at he⟩
  refine lv_dup hx hb dL_law_3 rfl ?_
  refine w_callI (M := mX8_init) (a := s.heap.size) (mc := 93) (ms := 1634) (A := yA s.heap.size) (cells := 1) (slots := 12) (Qh := Yw D s.heap.size (s.heap.size + 1) [.inr (8, [.null, .null, .null, .int 0, .null, .null, .null, .int 0, .null, .null, .null, .null])] 0 (po8 (s.heap.size + 1)) (bl8 ia (s.heap.size + 1))) hx hb hts hown hS1 (hl.1.trans hml.symm) (mk8 (d := 6) s.heap.size (s.heap.size + 1) 0 [.inr (8, [.null, .null, .null, .int 0, .null, .null, .null, .int 0, .null, .null, .null, .null])] rfl rfl) (fun av U g mk q => ⟨yK_call q.1, q.2⟩) (fun U hU hWm => ⟨yK_warm hWm hKy, by rw [hU]; exact hY1⟩) (wlm 73 (by decide +kernel) (by decide +kernel)) (wlm 74 (by decide +kernel) (by decide +kernel)) (wlm 54 (by decide +kernel) (by decide +kernel)) (wlm 75 (by decide +kernel) (by decide +kernel)) ⟨⟨by decide +kernel, by decide +kernel, by decide +kernel⟩, by decide⟩ rfl ⟨Nat.le_of_ble_eq_true rfl, Nat.le_of_ble_eq_true rfl⟩ ⟨Nat.le_of_ble_eq_true rfl, Nat.le_of_ble_eq_true rfl⟩ (Nat.le_of_ble_eq_true rfl) dL_law_4 (fun H2 locs2 hY2 hS2 => ?_)
  refine lv_astore_n (lv' := [(1, .ref s.heap.size), (0, .ref b)]) hx hb dL_law_7 rfl hl (by decide) rfl (fun ls hl => ?_)
  -- new UpperStepsModel
  have k9 := hKy.1.1 9 _ rfl
  have z2 : H2.size = s.heap.size + 94 := hY2.2.1
  refine W.newcK hx hb hown (hts _ (wlm 863 (by decide +kernel) (by decide +kernel))) (hts _ (wlm (w := .instantiable RX9 34) 864 (by decide +kernel) (by decide +kernel))) (hts _ (wlm 63 (by decide +kernel) (by decide +kernel))) rfl dL_law_8 (Nat.le_of_ble_eq_true rfl) (Nat.le_of_ble_eq_true rfl) k9.2.1 z2 fun H3 kC9 hkC9 g3 z3 o3 => ?_
  have at9 : va_at D vwCl (s.heap.size + 94, .inr (9, [.null, .null, .null, .int 0, .int 0, .null, .int 0, .int 0, .int 0, .int 0, .null, .int 0, .int 0, .int 0, .int 0, .int 0, .int 0, .int 0, .int 0, .int 0, .int 0, .int 0, .null, .null, .long 0, .long 0, .long 0, .null, .null, .null, .null, .null, .int 0, .null])) H3 := ⟨_, rfl, (u_born tyX9 hts inWX9 k9 hkC9 g3 tyX9_ok).to (fun j hj => match j, hj with | 0, _ => rfl | 1, _ => rfl | 2, _ => rfl | 3, _ => rfl | 4, _ => rfl | 5, _ => rfl | 6, _ => rfl | 7, _ => rfl | 8, _ => rfl | 9, _ => rfl | 10, _ => rfl | 11, _ => rfl | 12, _ => rfl | 13, _ => rfl | 14, _ => rfl | 15, _ => rfl | 16, _ => rfl | 17, _ => rfl | 18, _ => rfl | 19, _ => rfl | 20, _ => rfl | 21, _ => rfl | 22, _ => rfl | 23, _ => rfl | 24, _ => rfl | 25, _ => rfl | 26, _ => rfl | 27, _ => rfl | 28, _ => rfl | 29, _ => rfl | 30, _ => rfl | 31, _ => rfl | 32, _ => rfl | 33, _ => rfl | j + 34, h => absurd h (by simp))⟩
  have hS3 : va_S (yA s.heap.size) s.heap H3 locs2 := ⟨Nat.le_trans hS2.1 (by rw [z2, z3]; omega), fun q h1 h2 => (o3 q (by omega)).trans (hS2.2.1 q h1 h2), hS2.2.2⟩
  have kp : ∀ {q : Nat × va_E}, va_at D vwCl q H2 → va_at D vwCl q H3 := fun hq => hq.kept (o3 _ (by have := hq.lt; omega))
  have l8 : (bl8 ia (s.heap.size + 1)).length = 93 := rfl
  have hY3 : Yw D s.heap.size (s.heap.size + 95) (es9 ia s.heap.size) 94 (.inr (9, [.null, .null, .null, .int 0, .int 0, .null, .int 0, .int 0, .int 0, .int 0, .null, .int 0, .int 0, .int 0, .int 0, .int 0, .int 0, .int 0, .int 0, .int 0, .int 0, .int 0, .null, .null, .long 0, .long 0, .long 0, .null, .null, .null, .null, .null, .int 0, .null])) [] H3 := by
    refine ⟨⟨by rw [es9_len], by rw [es9_len]; decide⟩, z3, fun i e hi he => ?_, at9, fun i e he => by simp at he⟩
    unfold es9 at he
    cases i with
    | zero =>
      cases he
      exact kp hY2.2.2.2.1
    | succ i =>
      rw [List.getElem?_cons_succ] at he
      by_cases c9 : i < 93
      · rw [List.getElem?_append_left (by omega)] at he
        have := kp (hY2.2.2.2.2 i e he)
        rw [show s.heap.size + (i + 1) = s.heap.size + 1 + i by omega]
        exact this
      · rw [List.getElem?_append_right (by omega), l8] at he
        have hz : i - 93 < 1 := (List.getElem?_eq_some_iff.mp he).1
        omega
  refine lv_dup hx hb dL_law_11 rfl ?_
  obtain ⟨s2, hR2, hM9⟩ := mk9 (l := l) (D := D) (ia := ia) (b0 := s.heap.size) (a30 := a30) (a31 := a31)
  refine w_callI (M := mX9_init) (a := s.heap.size + 94) (mc := 13) (ms := 1634) (A := yA s.heap.size) (cells := 95) (slots := 1680) (Qh := zW (adz s.heap.size a30 a31) D ia s2) hx hb hts hown hS3 (hl.1.trans hml.symm) hM9 (fun av U g mk q => p9_call q) (fun U hU hWm => ?_) (wlm 865 (by decide +kernel) (by decide +kernel)) (wlm 866 (by decide +kernel) (by decide +kernel)) (wlm 63 (by decide +kernel) (by decide +kernel)) (wlm 867 (by decide +kernel) (by decide +kernel)) ⟨⟨by decide +kernel, by decide +kernel, by decide +kernel⟩, by decide⟩ rfl ⟨Nat.le_of_ble_eq_true rfl, Nat.le_of_ble_eq_true rfl⟩ ⟨Nat.le_of_ble_eq_true rfl, Nat.le_of_ble_eq_true rfl⟩ (Nat.le_of_ble_eq_true rfl) dL_law_12 (fun H4 locs4 hw4 hS4 => ?_)
  · have hz := zK_warm (U := s) (U2 := U) hWm (fun a h1 _ => by rw [hU]; exact hS3.2.1 a h1 (Nat.not_le.mpr h1)) hKz
    exact ⟨⟨yK_warm hWm hKy, by rw [hU]; exact hY3⟩, hz.2.2.1, hz.2.2.2⟩
  · refine lv_astore_n (lv' := [(2, .ref (s.heap.size + 94)), (1, .ref s.heap.size), (0, .ref b)]) hx hb dL_law_15 rfl hl (by decide) rfl (fun ls hl => ?_)
    refine lv_iconst (v := 0) hx hb dL_law_16 (by decide) ?_
    refine lv_istore_n (lv' := [(3, .int 0), (2, .ref (s.heap.size + 94)), (1, .ref s.heap.size), (0, .ref b)]) hx hb dL_law_17 rfl hl (by decide) rfl (fun ls hl => ?_)
    exact law_loop hA L 0 s2 (by omega) (by decide) hR2 H4 locs4 ls hw4 hS4 (lv_sub hl [3, 2, 1, 0] rfl)
