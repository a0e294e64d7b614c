/-! MAKING: the layer of the constructors. A frame of a constructor knows the cells from b on: es0 (there at its entry, its own object at place i0), then nw, made since; n is the heap's size at its entry -/
def yNW : List Cond := [.methodLinkNest RX8 9 yX0_init "UpperSteps", .methodLinkNest RX8 21 yX3_init "UpperSteps", .methodLinkNest RX3 11 yX7_init "UpperSteps", .methodLinkNest RX3 20 yX0_init "UpperSteps", .methodLinkNest RX8 28 yX6_init "UpperSteps", .methodLinkNest RX8 54 yX4_init "UpperSteps", .methodLinkNest RX4 20 yX0_init "UpperSteps", .methodLinkNest RX8 61 yX2_init "UpperSteps", .methodLinkNest RX8 66 yX1_init "UpperSteps", .methodLinkNest RX1 9 yX0_init "UpperSteps", .methodLinkNest RX1 18 yX6_init "UpperSteps", .methodLinkNest RX8 67 yX5_init "UpperSteps"]
def y5 (ia : Nat → ClassId) (U : State) : Prop := ∃ kA : Class, U.vm.classes[ia 5]? = some kA ∧ kA.kind = .array (ia 0) (.array .int)
def yK (D : va_G) (ia : Nat → ClassId) (U : State) : Prop := va_K D vwCl (ztys ia) U ∧ (∀ w ∈ yNW, va_Nw w U) ∧ va_AO "UpperSteps$Image" U ∧ va_AO "UpperSteps$Sheet" U ∧ y5 ia U
theorem y5_moved {ia : Nat → ClassId} {u U : State} (hvm : u.vm.Alike U.vm) (h : y5 ia u) : y5 ia U := by
  obtain ⟨kA, h1, h2⟩ := h
  obtain ⟨k', hk', he⟩ := hvm.2.2 _ _ h1
  exact ⟨k', hk', by rw [he]; exact h2⟩
theorem yK_warm {D : va_G} {ia : Nat → ClassId} {U U2 : State} (hW : U.WarmedH U2.vm) (h : yK D ia U) : yK D ia U2 := ⟨va_K.moved hW.alike h.1, fun w hw => by
  have h2 := h.2.1 w hw
  simp only [yNW, List.mem_cons, List.not_mem_nil, or_false] at hw
  rcases hw with rfl | rfl | rfl | rfl | rfl | rfl | rfl | rfl | rfl | rfl | rfl | rfl <;> exact va_Nw.warmM hW h2, va_AO.moved hW.alike h.2.2.1, va_AO.moved hW.alike h.2.2.2.1, y5_moved hW.alike h.2.2.2.2⟩
theorem yK_call {D : va_G} {ia : Nat → ClassId} {U : State} {g : JFrame} {mk : MethodId} {a : Array Value} (h : yK D ia U) : yK D ia (U.calling g mk a) := ⟨va_K.moved (u := U) (U := U.calling g mk a) (Vm.Alike.refl U.vm) h.1, fun w hw => va_Nw.same (u := U) (U := U.calling g mk a) (by revert w; decide +kernel) rfl (h.2.1 w hw), va_AO.moved (u := U) (U := U.calling g mk a) (Vm.Alike.refl U.vm) h.2.2.1, va_AO.moved (u := U) (U := U.calling g mk a) (Vm.Alike.refl U.vm) h.2.2.2.1, y5_moved (u := U) (U := U.calling g mk a) (Vm.Alike.refl U.vm) h.2.2.2.2⟩
def Yw (D : va_G) (b n : Nat) (es0 : List va_E) (i0 : Nat) (e0 : va_E) (nw : List va_E) (H : Heap) : Prop := (n = b + es0.length ∧ i0 < es0.length) ∧ H.size = n + nw.length ∧ (∀ i e, i ≠ i0 → es0[i]? = some e → va_at D vwCl (b + i, e) H) ∧ va_at D vwCl (b + i0, e0) H ∧ (∀ i e, nw[i]? = some e → va_at D vwCl (n + i, e) H)
theorem Yw.set0 {D : va_G} {b n i0 : Nat} {es0 nw : List va_E} {e0 e1 : va_E} {H H1 : Heap} (h : Yw D b n es0 i0 e0 nw H) (z : H1.size = H.size) (oq : ∀ q : Nat, q ≠ b + i0 → H1[q]? = H[q]?) (ha : va_at D vwCl (b + i0, e1) H1) : Yw D b n es0 i0 e1 nw H1 := by
  obtain ⟨⟨h1, h2⟩, h3, h4, h5, h6⟩ := h
  exact ⟨⟨h1, h2⟩, by rw [z]; exact h3, fun i e hi he => (h4 i e hi he).kept (oq (b + i) (by omega)), ha, fun i e he => (h6 i e he).kept (oq (n + i) (by omega))⟩
theorem Yw.setN {D : va_G} {b n i0 : Nat} {es0 nw : List va_E} {e0 e1 : va_E} {H H1 : Heap} (h : Yw D b n es0 i0 e0 nw H) {j : Nat} (z : H1.size = H.size) (oq : ∀ q : Nat, q ≠ n + j → H1[q]? = H[q]?) (ha : va_at D vwCl (n + j, e1) H1) : Yw D b n es0 i0 e0 (nw.set j e1) H1 := by
  obtain ⟨⟨h1, h2⟩, h3, h4, h5, h6⟩ := h
  refine ⟨⟨h1, h2⟩, by rw [z, List.length_set]; exact h3, fun i e hi he => (h4 i e hi he).kept (oq (b + i) (by have := (List.getElem?_eq_some_iff.mp he).1; omega)), h5.kept (oq (b + i0) (by omega)), fun i e he => ?_⟩
  rw [List.getElem?_set] at he
  by_cases c : j = i
  · rw [if_pos c] at he
    subst c
    split at he
    · cases he
      exact ha
    · cases he
  · rw [if_neg c] at he
    exact (h6 i e he).kept (oq (n + i) (by omega))
theorem Yw.push {D : va_G} {b n i0 : Nat} {es0 nw : List va_E} {e0 e1 : va_E} {H H1 : Heap} (h : Yw D b n es0 i0 e0 nw H) (z : H1.size = n + nw.length + 1) (o1 : ∀ q : Nat, q < n + nw.length → H1[q]? = H[q]?) (ha : va_at D vwCl (n + nw.length, e1) H1) : Yw D b n es0 i0 e0 (nw ++ [e1]) H1 := by
  obtain ⟨⟨h1, h2⟩, h3, h4, h5, h6⟩ := h
  have kp : ∀ {q : Nat × va_E}, va_at D vwCl q H → va_at D vwCl q H1 := fun hq => hq.kept (o1 _ (by rw [← h3]; exact hq.lt))
  refine ⟨⟨h1, h2⟩, by rw [z, List.length_append]; rfl, fun i e hi he => kp (h4 i e hi he), kp h5, fun i e he => ?_⟩
  by_cases c : i < nw.length
  · rw [List.getElem?_append_left c] at he
    exact kp (h6 i e he)
  · rw [List.getElem?_append_right (by omega)] at he
    have hz : i - nw.length < 1 := (List.getElem?_eq_some_iff.mp he).1
    have ei : i = nw.length := by omega
    subst ei
    rw [Nat.sub_self] at he
    cases he
    exact ha
def yA (b : Nat) : Nat → Prop := fun q => b ≤ q
def yrm (d mc ms : Nat) : Room := { frames := d, cells := mc, slots := ms, locals := 38 * d }
def yQ (D : va_G) (b n : Nat) (es0 : List va_E) (i0 : Nat) (e1 : va_E) (nw1 : List va_E) : Array Value → State → Outcome → State → Prop := fun _ st oc t => (oc = .returned none ∧ Yw D b n es0 i0 e1 nw1 t.heap) ∧ va_F (yA b) st t
def yP (D : va_G) (ia : Nat → ClassId) (b n : Nat) (es0 : List va_E) (i0 : Nat) (e0 : va_E) : State → Prop := fun U => yK D ia U ∧ Yw D b n es0 i0 e0 [] U.heap
/-- A CONSTRUCTOR M: of an object that is 'pre' it makes 'post n', and the cells 'blk n' behind the heap's end n -/
def Mk (l : Launch) (D : va_G) (ia : Nat → ClassId) (d mc ms : Nat) (M : ZM) (pre : va_E) (post : Nat → va_E) (blk : Nat → List va_E) : Prop := ∀ (b n i0 : Nat) (es0 : List va_E), n = b + es0.length → es0[i0]? = some pre → Met l M.1 (.code M.1 M.2.1 M.2.2.1 M.2.2.2 :: WL) (yrm d mc ms) (va_Pc [.ref (b + i0)] (yP D ia b n es0 i0 pre)) (yQ D b n es0 i0 (post n) (blk n)) mc ms (yA b)
def Y (l : Launch) (D : va_G) (C : ZC) (mc ms b n : Nat) (es0 : List va_E) (i0 : Nat) (Qc : Array Value → State → Outcome → State → Prop) (pc : Nat) (V : List (Nat × Value)) (St : List Value) (e0 : va_E) (nw : List va_E) (sl : Nat) : Prop := match C with
  | (p, e, R, s0, m, args, below, meth, c) => ∀ (H : Heap) (locs : List Loc) (ls : Array Slot), Yw D b n es0 i0 e0 nw H → va_S (yA b) s0.heap H locs → lv_has ls c.maxLocals V → W p l e R s0 m args below meth c H locs nw.length sl (MQ below Qc args s0 mc ms (yA b)) (F0 m pc ls St)
def Yok (D : va_G) (ia : Nat → ClassId) (C : ZC) (d mc ms : Nat) (cc : ByteArray) (nL : Nat) (own : String) : Prop := match C with
  | (p, _, R, s0, m, args, _, meth, c) => p.tables.exec = Jvm.exec ∧ c.code = cc ∧ c.maxLocals = nL ∧ s0.vm.findClass own = some m.cls ∧ (∀ w ∈ WL, w.before args s0 = true) ∧ meth.sig.returnType = none ∧ meth.locks = false ∧ R = yrm d mc ms ∧ meth.name = "<init>" ∧ yK D ia s0
def ypk (own : String) (idx ci k : Nat) (ty : FieldType) : Prop := ∃ (q : vw_C) (ty0 : Nat → FieldType), vwCl[ci]? = some q ∧ (∀ w ∈ u_ws q.1 q.2.1 q.2.2, w ∈ WL) ∧ k < q.2.2 ∧ Cond.fieldLink own idx (q.2.1 k).1 (q.2.1 k).2.1 (q.2.1 k).2.2.1 ∈ WL ∧ (∀ k, k < q.2.2 → parseFieldDescriptor (q.2.1 k).2.2.1 = some (ty0 k)) ∧ (∀ a, a < q.2.2 → ∀ b, b < q.2.2 → a ≠ b → (q.2.1 a).2.1 ≠ (q.2.1 b).2.1) ∧ ((q.2.1 k).2.2.2 = false ∨ ((q.2.1 k).2.2.2 = true ∧ (q.2.1 k).1 = own)) ∧ parseFieldDescriptor (q.2.1 k).2.2.1 = some ty
/-- the class of a 'new': its number, its blank fields -/
def ynk (own : String) (idx ci N : Nat) (fs : List Value) : Prop := ∃ (q : vw_C) (ty0 : Nat → FieldType), vwCl[ci]? = some q ∧ q.2.2 = N ∧ (∀ w ∈ u_ws q.1 q.2.1 q.2.2, w ∈ WL) ∧ (∀ k, k < q.2.2 → parseFieldDescriptor (q.2.1 k).2.2.1 = some (ty0 k)) ∧ (∀ j, j < q.2.2 → defaultValue (ty0 j) = vp_V fs j) ∧ Cond.classLink own idx q.1 ∈ WL ∧ Cond.instantiable q.1 N ∈ WL ∧ Cond.initialized q.1 ∈ WL
section WROW
variable {p : Program} {l : Launch} {e : Env} {R : Room} {s : State} {m : MethodId} {args : Array Value} {below : List Frame} {meth : Method} {c : Code} {H : Heap} {locs : List Loc} {cells slots : Nat} {Q : State → Prop} {cc : ByteArray} {pc : Nat} {ls : Array Slot} {rest : List Value} {D : va_G} {ia : Nat → ClassId}
theorem w_put (hx : p.tables.exec = Jvm.exec) (hb : c.code = cc) (hts : ∀ w ∈ WL, w.before args s = true) {own : String} {idx ci k a : Nat} {ty : FieldType} {fs : List Value} {v : Value} (hown : s.vm.findClass own = some m.cls) (hK : va_K D vwCl (ztys ia) s) (hnm : meth.name = "<init>") (pk : ypk own idx ci k ty) (he : va_at D vwCl (a, .inr (ci, fs)) H) (hn : narrow ty v = v) (hfit : fits ty v = true) (hl : k < fs.length) (dd : decode cc pc = .ok (.putfield idx, 3))
    (kk : ∀ (H1 : Heap) (x : Nat), va_at D vwCl (a, .inr (ci, fs.set k v)) H1 → H1.size = H.size → (∀ q : Nat, q ≠ a → H1[q]? = H[q]?) → W p l e R s m args below meth c H1 (locs ++ [⟨a, x⟩]) cells slots Q (F0 m (pc + 3) ls rest)) : W p l e R s m args below meth c H locs cells slots Q (F0 m pc ls (v :: .ref a :: rest)) := by
  obtain ⟨⟨Cn, Tn, Nn⟩, ty0, hc, hin, hk, hlink, hty, hnames, hfin, hd⟩ := pk
  have hap := va_apart (own := own) hts hin ty0 hty hnames hK hc
  obtain ⟨r, r1, cell, q1, q2, q3, q4⟩ := he
  cases Option.some.inj (r1.symm.trans hc)
  obtain ⟨hS, hfc, kC, hkC, hkind⟩ := hK.1 ci _ hc
  obtain ⟨cf, kf, fi, f, hi, hsl⟩ := hS k hk
  have hst := (u_facts hfc hkC (u_lays hts hin hk) hi).1
  have hlay := hts _ (hin _ (u_in_lay hk))
  unfold u_lay at hlay
  have fin : ∀ H' : Heap, H'[a]? = some (cell.setSlot f.slot v) → H'.size = H.size → (∀ q : Nat, q ≠ a → H'[q]? = H[q]?) → W p l e R s m args below meth c H' (locs ++ [⟨a, f.slot⟩]) cells slots Q (F0 m (pc + 3) ls rest) := fun H' g1 g2 g3 => by
    rw [hsl] at g1
    exact kk H' f.slot ⟨_, hc, t_OB.to (V := updV (vp_V fs) k v) ⟨_, g1, q2, q3, t_set q4 hap hk v⟩ (fun j _ => vp_updV_set hl v j)⟩ g2 g3
  have hlt : f.slot < cell.slots.size := by rw [hsl]; exact k2_hasslot (q4 k hk)
  rcases hfin with hfin | ⟨hfin, hdecl⟩
  · rw [if_neg (by rw [hfin]; decide)] at hlay
    exact W.putK hx hb (f := f) ⟨hown, hts _ hlink, ⟨_, _, _, hi⟩, hst⟩ (by rw [q2]; exact u_store hfc hkC hkind hlay hi hd hn hfit) q1 q3 hlt rfl rfl dd fin
  · rw [if_pos hfin] at hlay
    have hcf : m.cls = cf := by
      obtain ⟨_, _, c', _, _, _, -, -, hf', -, -, -, hown2, -⟩ := Cond.laysFinal_spec hlay
      have e1 : c' = cf := by have := hi.symm.trans hf'; simp at this; exact this.1.symm
      rw [hdecl] at hown2
      rw [← e1]; exact Option.some.inj (hown.symm.trans hown2)
    exact W.putFinK hx hb hown (hts _ hlink) hi hst hcf hnm (by rw [q2]; exact u_fits hfc hkC hkind (Or.inr hlay) hi hd hn hfit) q1 q3 hlt rfl rfl dd fin
theorem w_aast (hx : p.tables.exec = Jvm.exec) (hb : c.code = cc) (hK : va_K D vwCl (ztys ia) s) {t0 ci a v n : Nat} {cA : ClassId} {r : vw_C} {vs : List Value} {f : Nat → Option Nat} (ha : va_at D vwCl (a, .inl (cA, n, .inr (.inr (.inr (.inr f))))) H) (ht : (ztys ia)[t0]? = some (cA, .object r.1)) (hv : va_at D vwCl (v, .inr (ci, vs)) H) (hc : vwCl[ci]? = some r) {i : Int32} (hin : vp_in i n) (dd : decode cc pc = .ok (.aastore, 1))
    (kk : ∀ (H1 : Heap) (x : Nat), va_at D vwCl (a, .inl (cA, n, .inr (.inr (.inr (.inr (va_up f i.toNatClampNeg (some v))))))) H1 → H1.size = H.size → (∀ q : Nat, q ≠ a → H1[q]? = H[q]?) → W p l e R s m args below meth c H1 (locs ++ [⟨a, x⟩]) cells slots Q (F0 m (pc + 1) ls rest)) : W p l e R s m args below meth c H locs cells slots Q (F0 m pc ls (.ref v :: .int i :: .ref a :: rest)) := by
  have hlt : i.toNatClampNeg < n := Nat.not_le.mp fun q => hin (Or.inr q)
  have h0 : ¬ i < 0 := fun q => hin (Or.inl q)
  obtain ⟨r', hr', cellV, g1, g2, g3, -⟩ := hv
  have hcls := (hK.1 ci r hc).2
  obtain ⟨kA, comp, k1, k2, k3, -⟩ := (hK.2 t0 _ ht).2
  cases Option.some.inj (k3.symm.trans hcls.1)
  obtain ⟨kC, hkC, -⟩ := hcls.2
  refine W.aast hx hb ha (fun q h => by cases h) (fun h => by cases h) k1 k2 rfl hkC ⟨h0, by show _ < (arrV _ _ _).slots.size; rw [arrV_size]; exact hlt⟩ g1 (fun q h => by rw [g3] at h; cases h) (by rw [g2]; exact hkC) (by rw [g2]; exact va_assign hcls) rfl rfl dd fun H1 e1 z oq => ?_
  refine kk H1 _ ?_ z oq
  show H1[a]? = some (vp_cell _ _)
  rw [e1, vp_cell_q, vp_cell_q, arrV_store]
  congr 2
  funext q
  by_cases hq : q = i.toNatClampNeg
  · subst hq
    simp [updV, va_up, va_rf]
  · simp [updV, va_up, hq]
end WROW
section YL
variable {l : Launch} {D : va_G} {ia : Nat → ClassId} {C : ZC} {d mc ms b n i0 nL pc sl : Nat} {es0 nw nw1 : List va_E} {e0 e1 : va_E} {cc : ByteArray} {own : String} {V : List (Nat × Value)} {St : List Value} {Qc : Array Value → State → Outcome → State → Prop}
theorem Y_aload_n (hC : Yok D ia C d mc ms cc nL own) {k : Fin 4} {i x : Nat} (dd : decode cc pc = .ok (.aload_n k, 1)) (hi : (k : Nat) = i) (hv : V.lookup i = some (.ref x)) (kk : Y l D C mc ms b n es0 i0 Qc (pc + 1) V (.ref x :: St) e0 nw sl) : Y l D C mc ms b n es0 i0 Qc pc V St e0 nw sl := by
  obtain ⟨p, e, R, s0, m, args, below, meth, c0⟩ := C
  obtain ⟨hx, hb, hml, hown, hts, hr, hlk, hR, hnm, hKK⟩ := hC
  intro H locs ls hw hS hl
  exact lv_aload_n hx hb dd hi (hl.2.2 _ (lk_mem hv)) (kk H locs ls hw hS hl)
theorem Y_iload_n (hC : Yok D ia C d mc ms cc nL own) {k : Fin 4} {i : Nat} {x : Int32} (dd : decode cc pc = .ok (.iload_n k, 1)) (hi : (k : Nat) = i) (hv : V.lookup i = some (.int x)) (kk : Y l D C mc ms b n es0 i0 Qc (pc + 1) V (.int x :: St) e0 nw sl) : Y l D C mc ms b n es0 i0 Qc pc V St e0 nw sl := by
  obtain ⟨p, e, R, s0, m, args, below, meth, c0⟩ := C
  obtain ⟨hx, hb, hml, hown, hts, hr, hlk, hR, hnm, hKK⟩ := hC
  intro H locs ls hw hS hl
  exact lv_iload_n hx hb dd hi (hl.2.2 _ (lk_mem hv)) (kk H locs ls hw hS hl)
theorem Y_istore_n (hC : Yok D ia C d mc ms cc nL own) {k : Fin 4} {i : Nat} {x : Int32} {V2 : List (Nat × Value)} (dd : decode cc pc = .ok (.istore_n k, 1)) (hi : (k : Nat) = i) (hn : i < nL) (h2 : (i, Value.int x) :: V.filter (fun q => !(q.1 == i) && !(q.1 + 1 == i && q.2.category == 2)) = V2) (kk : Y l D C mc ms b n es0 i0 Qc (pc + 1) V2 St e0 nw sl) : Y l D C mc ms b n es0 i0 Qc pc V (.int x :: St) e0 nw sl := by
  obtain ⟨p, e, R, s0, m, args, below, meth, c0⟩ := C
  obtain ⟨hx, hb, hml, hown, hts, hr, hlk, hR, hnm, hKK⟩ := hC
  intro H locs ls hw hS hl
  subst hml
  exact lv_istore_n hx hb dd hi hl hn h2 (fun ls2 hl2 => kk H locs ls2 hw hS hl2)
theorem Y_iinc (hC : Yok D ia C d mc ms cc nL own) {i : Nat} {t : Int} {x v : Int32} {V2 : List (Nat × Value)} (dd : decode cc pc = .ok (.iinc i t, 3)) (hv : V.lookup i = some (.int x)) (hs : x + Int32.ofInt t = v) (hn : i < nL) (h2 : (i, Value.int v) :: V.filter (fun q => !(q.1 == i) && !(q.1 + 1 == i && q.2.category == 2)) = V2) (kk : Y l D C mc ms b n es0 i0 Qc (pc + 3) V2 St e0 nw sl) : Y l D C mc ms b n es0 i0 Qc pc V St e0 nw sl := by
  obtain ⟨p, e, R, s0, m, args, below, meth, c0⟩ := C
  obtain ⟨hx, hb, hml, hown, hts, hr, hlk, hR, hnm, hKK⟩ := hC
  intro H locs ls hw hS hl
  subst hml
  obtain ⟨j, hj⟩ := List.getElem?_of_mem (lk_mem hv)
  exact lv_iinc hx hb dd hl (k := j) hj hs hn h2 (fun ls2 hl2 => kk H locs ls2 hw hS hl2)
theorem Y_iconst (hC : Yok D ia C d mc ms cc nL own) {t : Int} {v : Int32} (dd : decode cc pc = .ok (.iconst t, 1)) (hv : Int32.ofInt t = v) (kk : Y l D C mc ms b n es0 i0 Qc (pc + 1) V (.int v :: St) e0 nw sl) : Y l D C mc ms b n es0 i0 Qc pc V St e0 nw sl := by
  obtain ⟨p, e, R, s0, m, args, below, meth, c0⟩ := C
  obtain ⟨hx, hb, hml, hown, hts, hr, hlk, hR, hnm, hKK⟩ := hC
  intro H locs ls hw hS hl
  exact lv_iconst hx hb dd hv (kk H locs ls hw hS hl)
theorem Y_bipush (hC : Yok D ia C d mc ms cc nL own) {t : Int} {v : Int32} (dd : decode cc pc = .ok (.bipush t, 2)) (hv : (Int8.ofInt t).toInt32 = v) (kk : Y l D C mc ms b n es0 i0 Qc (pc + 2) V (.int v :: St) e0 nw sl) : Y l D C mc ms b n es0 i0 Qc pc V St e0 nw sl := by
  obtain ⟨p, e, R, s0, m, args, below, meth, c0⟩ := C
  obtain ⟨hx, hb, hml, hown, hts, hr, hlk, hR, hnm, hKK⟩ := hC
  intro H locs ls hw hS hl
  exact lv_bipush hx hb dd hv (kk H locs ls hw hS hl)
theorem Y_sipush (hC : Yok D ia C d mc ms cc nL own) {t : Int} {v : Int32} (dd : decode cc pc = .ok (.sipush t, 3)) (hv : (Int16.ofInt t).toInt32 = v) (kk : Y l D C mc ms b n es0 i0 Qc (pc + 3) V (.int v :: St) e0 nw sl) : Y l D C mc ms b n es0 i0 Qc pc V St e0 nw sl := by
  obtain ⟨p, e, R, s0, m, args, below, meth, c0⟩ := C
  obtain ⟨hx, hb, hml, hown, hts, hr, hlk, hR, hnm, hKK⟩ := hC
  intro H locs ls hw hS hl
  exact lv_sipush hx hb dd hv (kk H locs ls hw hS hl)
theorem Y_dup (hC : Yok D ia C d mc ms cc nL own) {a : Value} (dd : decode cc pc = .ok (.dup, 1)) (ha : a.category = 1) (kk : Y l D C mc ms b n es0 i0 Qc (pc + 1) V (a :: a :: St) e0 nw sl) : Y l D C mc ms b n es0 i0 Qc pc V (a :: St) e0 nw sl := by
  obtain ⟨p, e, R, s0, m, args, below, meth, c0⟩ := C
  obtain ⟨hx, hb, hml, hown, hts, hr, hlk, hR, hnm, hKK⟩ := hC
  intro H locs ls hw hS hl
  exact lv_dup hx hb dd ha (kk H locs ls hw hS hl)
theorem Y_goto (hC : Yok D ia C d mc ms cc nL own) {off : Int} {tgt : Nat} (dd : decode cc pc = .ok (.goto off, 3)) (ht : (pc : Int) + off = (tgt : Int)) (kk : Y l D C mc ms b n es0 i0 Qc tgt V St e0 nw sl) : Y l D C mc ms b n es0 i0 Qc pc V St e0 nw sl := by
  obtain ⟨p, e, R, s0, m, args, below, meth, c0⟩ := C
  obtain ⟨hx, hb, hml, hown, hts, hr, hlk, hR, hnm, hKK⟩ := hC
  intro H locs ls hw hS hl
  exact lv_goto hx hb dd ht (kk H locs ls hw hS hl)
theorem Y_icmp_ge (hC : Yok D ia C d mc ms cc nL own) {x y : Int32} {off : Int} {tgt : Nat} (dd : decode cc pc = .ok (.if_icmp .ge off, 3)) (ht : (pc : Int) + off = (tgt : Int)) (kt : y ≤ x → Y l D C mc ms b n es0 i0 Qc tgt V St e0 nw sl) (kf : ¬ y ≤ x → Y l D C mc ms b n es0 i0 Qc (pc + 3) V St e0 nw sl) : Y l D C mc ms b n es0 i0 Qc pc V (.int y :: .int x :: St) e0 nw sl := by
  obtain ⟨p, e, R, s0, m, args, below, meth, c0⟩ := C
  obtain ⟨hx, hb, hml, hown, hts, hr, hlk, hR, hnm, hKK⟩ := hC
  intro H locs ls hw hS hl
  exact lv_icmp_ge hx hb dd ht (fun h => kt h H locs ls hw hS hl) (fun h => kf h H locs ls hw hS hl)
theorem Y_pick {V2 : List (Nat × Value)} (ks : List Nat) (h : lv_pick V ks = V2) (kk : Y l D C mc ms b n es0 i0 Qc pc V2 St e0 nw sl) : Y l D C mc ms b n es0 i0 Qc pc V St e0 nw sl := by
  obtain ⟨p, e, R, s0, m, args, below, meth, c0⟩ := C
  intro H locs ls hw hS hl
  exact kk H locs ls hw hS (lv_sub hl ks h)
theorem Y_objInit (hC : Yok D ia C (d + 1) mc ms cc nL own) {idx a : Nat} (h1 : Cond.methodLink own idx Lib.objectInit ∈ WL) (h2 : Cond.instanceMethod Lib.objectInit ∈ WL) (h3 : Cond.code Lib.objectInit ⟨#[0xb1]⟩ 1 none ∈ WL) (dd : decode cc pc = .ok (.invokespecial idx, 3)) (kk : Y l D C mc ms b n es0 i0 Qc (pc + 3) V [] e0 nw sl) : Y l D C mc ms b n es0 i0 Qc pc V [.ref a] e0 nw sl := by
  obtain ⟨p, e, R, s0, m, args, below, meth, c0⟩ := C
  obtain ⟨hx, hb, hml, hown, hts, hr, hlk, hR, hnm, hKK⟩ := hC
  intro H locs ls hw hS hl
  subst hR
  exact W.objInit hx hb hown (hts _ h1) (hts _ h2) (hts _ h3) (g := F0 m pc ls [.ref a]) rfl hl.1 rfl dd (Nat.succ_le_succ (Nat.zero_le d)) (by show 0 + 0 + 12 ≤ 38 * (d + 1); omega) (W.eq (g2 := F0 m (pc + 3) ls []) rfl (kk H locs ls hw hS hl))
theorem Y_ret (hC : Yok D ia C d mc ms cc nL own) (dd : decode cc pc = .ok (.return_, 1)) (h0 : e0 = e1) (h1 : nw = nw1) (hm : nw.length = mc) (hs : sl = ms) : Y l D C mc ms b n es0 i0 (yQ D b n es0 i0 e1 nw1) pc V [] e0 nw sl := by
  obtain ⟨p, e, R, s0, m, args, below, meth, c0⟩ := C
  obtain ⟨hx, hb, hml, hown, hts, hr, hlk, hR, hnm, hKK⟩ := hC
  intro H locs ls hw hS hl
  subst h0
  subst h1
  subst hm
  subst hs
  exact W.vret hx hb hr (fun t ht hW => ⟨⟨rfl, by rw [ht]; exact hw⟩, hS.F ht⟩) hS.2.2 dd hlk
theorem Y_new (hC : Yok D ia C d mc ms cc nL own) {idx ci N : Nat} {fs : List Value} (nk : ynk own idx ci N fs) (hc : nw.length + 1 ≤ mc) (hs : sl + N ≤ ms) (dd : decode cc pc = .ok (.new idx, 3)) (kk : Y l D C mc ms b n es0 i0 Qc (pc + 3) V (.ref (n + nw.length) :: St) e0 (nw ++ [.inr (ci, fs)]) (sl + N)) : Y l D C mc ms b n es0 i0 Qc pc V St e0 nw sl := by
  obtain ⟨p, e, R, s0, m, args, below, meth, c0⟩ := C
  obtain ⟨hx, hb, hml, hown, hts, hr, hlk, hR, hnm, hKK⟩ := hC
  intro H locs ls hw hS hl
  obtain ⟨⟨Cn, Tn, Nn⟩, ty0, hq, hN, hin, hty, hfs, l1, l2, l3⟩ := nk
  subst hR
  have hN : Nn = N := hN
  subst hN
  have hKn := hKK.1.1 ci _ hq
  refine W.newcK hx hb hown (hts _ l1) (hts _ l2) (hts _ l3) rfl dd hc hs hKn.2.1 hw.2.1 fun H1 kC hkC g1 z1 o1 => ?_
  have hat : va_at D vwCl (n + nw.length, .inr (ci, fs)) H1 := ⟨_, hq, (u_born ty0 hts hin hKn hkC g1 hty).to hfs⟩
  have := kk H1 locs ls (hw.push z1 o1 hat) ⟨Nat.le_trans hS.1 (by rw [hw.2.1, z1]; omega), fun x h1 h2 => by
    have hlt := Nat.lt_of_lt_of_le h1 hS.1
    rw [hw.2.1] at hlt
    exact (o1 x hlt).trans (hS.2.1 x h1 h2), hS.2.2⟩ hl
  rw [List.length_append] at this
  exact this
theorem Y_newa (hC : Yok D ia C d mc ms cc nL own) {at0 : ArrayType} {ty : FieldType} {t0 N : Nat} {x : Int32} (hty : newarray.typeOf at0 = ty) (h1 : Cond.arrayClass (newarray.typeOf at0) ∈ WL) (ht : (ztys ia)[t0]? = some (ia t0, ty)) (hra : ∀ U, va_RA U (ia t0) ty → U.vm.findClass ("[" ++ ty.toString) = some (ia t0)) (hdv : defaultValue ty = .int 0) (hn : ¬ x < 0) (hN : x.toNatClampNeg = N) (hby : N * componentBytes ty ≤ 536870912) (hc : nw.length + 1 ≤ mc) (hs : sl + N ≤ ms) (dd : decode cc pc = .ok (.newarray at0, 2)) (kk : Y l D C mc ms b n es0 i0 Qc (pc + 2) V (.ref (n + nw.length) :: St) e0 (nw ++ [.inl (ia t0, N, .inl (fun _ => 0))]) (sl + N)) : Y l D C mc ms b n es0 i0 Qc pc V (.int x :: St) e0 nw sl := by
  obtain ⟨p, e, R, s0, m, args, below, meth, c0⟩ := C
  obtain ⟨hx, hb, hml, hown, hts, hr, hlk, hR, hnm, hKK⟩ := hC
  intro H locs ls hw hS hl
  subst hR
  subst hty
  refine va_newaK hx hb (hts _ h1) (g := F0 m pc ls (.int x :: St)) rfl dd rfl hn hN hby hc hs hw.2.1 fun H1 cA g1 z1 o1 hAr hNm => ?_
  have ec : cA = ia t0 := Option.some.inj (hNm.symm.trans (hra _ (hKK.1.2 t0 _ ht).2))
  subst ec
  have hat : va_at D vwCl (n + nw.length, .inl (ia t0, N, .inl (fun _ => 0))) H1 := by
    show H1[n + nw.length]? = some (vp_cell _ _)
    rw [vp_cell_i, g1, hdv]
  have := kk H1 locs ls (hw.push z1 o1 hat) ⟨Nat.le_trans hS.1 (by rw [hw.2.1, z1]; omega), fun x h1 h2 => by
    have hlt := Nat.lt_of_lt_of_le h1 hS.1
    rw [hw.2.1] at hlt
    exact (o1 x hlt).trans (hS.2.1 x h1 h2), hS.2.2⟩ hl
  rw [List.length_append] at this
  exact this
theorem Y_anew (hC : Yok D ia C d mc ms cc nL own) {Cn : String} {idx t0 N : Nat} {x : Int32} (h1 : Cond.classLink own idx Cn ∈ WL) (hao : ∀ U, yK D ia U → va_AO Cn U) (ht : (ztys ia)[t0]? = some (ia t0, .object Cn)) (hn : ¬ x < 0) (hN : x.toNatClampNeg = N) (hby : N * 4 ≤ 536870912) (hc : nw.length + 1 ≤ mc) (hs : sl + N ≤ ms) (dd : decode cc pc = .ok (.anewarray idx, 3)) (kk : Y l D C mc ms b n es0 i0 Qc (pc + 3) V (.ref (n + nw.length) :: St) e0 (nw ++ [.inl (ia t0, N, .inr (.inr (.inr (.inr (fun _ => none)))))]) (sl + N)) : Y l D C mc ms b n es0 i0 Qc pc V (.int x :: St) e0 nw sl := by
  obtain ⟨p, e, R, s0, m, args, below, meth, c0⟩ := C
  obtain ⟨hx, hb, hml, hown, hts, hr, hlk, hR, hnm, hKK⟩ := hC
  intro H locs ls hw hS hl
  subst hR
  subst hN
  refine W.anew hx hb hown (hts _ h1) (va_AO.use (hao _ hKK)) (g := F0 m pc ls (.int x :: St)) rfl dd rfl hn hby hc hs fun cA kA comp f1 f2 f3 f4 => ?_
  obtain ⟨_, _, -, -, -, r4⟩ := (hKK.1.2 t0 _ ht).2
  cases Option.some.inj (f1.symm.trans r4)
  generalize hH1 : H.push ({ cls := ia t0, slots := Array.replicate x.toNatClampNeg .null, vm := .none } : Cell) = H1
  have z1 : H1.size = n + nw.length + 1 := by rw [← hH1, Array.size_push, hw.2.1]
  have hat : va_at D vwCl (n + nw.length, .inl (ia t0, x.toNatClampNeg, .inr (.inr (.inr (.inr (fun _ => none)))))) H1 := by
    show H1[n + nw.length]? = some (vp_cell _ _)
    rw [vp_cell_q, ← hw.2.1, ← hH1, Array.getElem?_push_size]
    show _ = some (arrV (ia t0) x.toNatClampNeg (fun _ => .null))
    rw [← arrV_new]
  have o1 : ∀ q : Nat, q < n + nw.length → H1[q]? = H[q]? := fun q hq => by rw [← hH1, Array.getElem?_push, if_neg (by rw [hw.2.1]; omega)]
  have := kk H1 locs ls (hw.push z1 o1 hat) ⟨Nat.le_trans hS.1 (by rw [hw.2.1, z1]; omega), fun x h1 h2 => by
    have hlt := Nat.lt_of_lt_of_le h1 hS.1
    rw [hw.2.1] at hlt
    exact (o1 x hlt).trans (hS.2.1 x h1 h2), hS.2.2⟩ hl
  rw [List.length_append] at this
  rw [hw.2.1]
  exact this
theorem Y_put (hC : Yok D ia C d mc ms cc nL own) {idx ci k : Nat} {ty : FieldType} {fs : List Value} {v : Value} (pk : ypk own idx ci k ty) (hn : narrow ty v = v) (hfit : fits ty v = true) (hl : k < fs.length) (dd : decode cc pc = .ok (.putfield idx, 3)) (kk : Y l D C mc ms b n es0 i0 Qc (pc + 3) V St (.inr (ci, fs.set k v)) nw sl) : Y l D C mc ms b n es0 i0 Qc pc V (v :: .ref (b + i0) :: St) (.inr (ci, fs)) nw sl := by
  obtain ⟨p, e, R, s0, m, args, below, meth, c0⟩ := C
  obtain ⟨hx, hb, hml, hown, hts, hr, hlk, hR, hnm, hKK⟩ := hC
  intro H locs ls hw hS hl2
  exact w_put hx hb hts hown hKK.1 hnm pk hw.2.2.2.1 hn hfit hl dd (fun H1 x g1 z oq => kk H1 _ ls (hw.set0 z oq g1) (hS.put z oq (by show b ≤ b + i0; omega)) hl2)
theorem Y_get (hC : Yok D ia C d mc ms cc nL own) {idx ci k : Nat} {fs : List Value} {v : Value} (lk : zlk own idx ci k) (hv : fs[k]? = some v) (dd : decode cc pc = .ok (.getfield idx, 3)) (kk : Y l D C mc ms b n es0 i0 Qc (pc + 3) V (v :: St) (.inr (ci, fs)) nw sl) : Y l D C mc ms b n es0 i0 Qc pc V (.ref (b + i0) :: St) (.inr (ci, fs)) nw sl := by
  obtain ⟨p, e, R, s0, m, args, below, meth, c0⟩ := C
  obtain ⟨hx, hb, hml, hown, hts, hr, hlk, hR, hnm, hKK⟩ := hC
  intro H locs ls hw hS hl
  obtain ⟨⟨Cn, Tn, Nn⟩, h1, h2, h3, h4⟩ := lk
  have hP : va_P D vwCl [(b + i0, .inr (ci, fs))] H := fun k q hk => by
    have hz : k < 1 := (List.getElem?_eq_some_iff.mp hk).1
    rw [show k = 0 by omega] at hk
    cases hk
    exact hw.2.2.2.1
  exact va_get hx hb hts h2 hown hKK.1 hP 0 rfl h1 k h3 (hts _ h4) (fun _ h => h) hv dd (kk H locs ls hw hS hl)
theorem Y_aast (hC : Yok D ia C d mc ms cc nL own) {t0 ci j jv N : Nat} {r : vw_C} {vs : List Value} {f : Nat → Option Nat} (ha : nw[j]? = some (.inl (ia t0, N, .inr (.inr (.inr (.inr f)))))) (ht : (ztys ia)[t0]? = some (ia t0, .object r.1)) (hv : nw[jv]? = some (.inr (ci, vs))) (hc : vwCl[ci]? = some r) {i : Int32} (hin : vp_in i N) (dd : decode cc pc = .ok (.aastore, 1)) (kk : Y l D C mc ms b n es0 i0 Qc (pc + 1) V St e0 (nw.set j (.inl (ia t0, N, .inr (.inr (.inr (.inr (va_up f i.toNatClampNeg (some (n + jv))))))))) sl) : Y l D C mc ms b n es0 i0 Qc pc V (.ref (n + jv) :: .int i :: .ref (n + j) :: St) e0 nw sl := by
  obtain ⟨p, e, R, s0, m, args, below, meth, c0⟩ := C
  obtain ⟨hx, hb, hml, hown, hts, hr, hlk, hR, hnm, hKK⟩ := hC
  intro H locs ls hw hS hl
  refine w_aast hx hb hKK.1 (hw.2.2.2.2 j _ ha) ht (hw.2.2.2.2 jv _ hv) hc hin dd (fun H1 x g1 z oq => ?_)
  have := kk H1 (locs ++ [⟨n + j, x⟩]) ls (hw.setN z oq g1) (hS.put z oq (by have := hw.1.1; show b ≤ n + j; omega)) hl
  rw [List.length_set] at this
  exact this
theorem Y_iast (hC : Yok D ia C d mc ms cc nL own) {j N : Nat} {f : Nat → Int32} (ha : nw[j]? = some (.inl (ia 0, N, .inl f))) {i x : Int32} (hin : vp_in i N) (dd : decode cc pc = .ok (.iastore, 1)) (kk : Y l D C mc ms b n es0 i0 Qc (pc + 1) V St e0 (nw.set j (.inl (ia 0, N, .inl (upd f i.toNatClampNeg x)))) sl) : Y l D C mc ms b n es0 i0 Qc pc V (.int x :: .int i :: .ref (n + j) :: St) e0 nw sl := by
  obtain ⟨p, e, R, s0, m, args, below, meth, c0⟩ := C
  obtain ⟨hx, hb, hml, hown, hts, hr, hlk, hR, hnm, hKK⟩ := hC
  intro H locs ls hw hS hl
  refine W.iast hx hb (hw.2.2.2.2 j _ ha) ((hKK.1.2 0 (ia 0, .int) rfl).1 N (fun j => .int (f j))) (fun q => by cases q) (by show ¬ (i < 0 ∨ (arrV _ _ _).slots.size ≤ _); rw [arrV_size]; exact hin) rfl rfl dd fun H1 g1 z oq => ?_
  have g2 : va_at D vwCl (n + j, .inl (ia 0, N, .inl (upd f i.toNatClampNeg x))) H1 := by
    show H1[n + j]? = some (vp_cell _ _)
    rw [g1, vp_cell_i, vp_cell_i, arrV_store]
    congr 2
    funext q
    by_cases hq : q = i.toNatClampNeg
    · subst hq
      simp [updV, upd]
    · simp [updV, upd, hq]
  have := kk H1 (locs ++ [⟨n + j, i.toNatClampNeg⟩]) ls (hw.setN z oq g2) (hS.put z oq (by have := hw.1.1; show b ≤ n + j; omega)) hl
  rw [List.length_set] at this
  exact this
theorem Mk.start {M : ZM} {pre : va_E} {post : Nat → va_E} {blk : Nat → List va_E} (hy : plainName M.1.cls = true) (hin : M.1.name = "<init>") (hret : M.2.2.2 = none) (hlen : 1 ≤ M.2.2.1) (body : ∀ (b n i0 : Nat) (es0 : List va_E) (C : ZC), Yok D ia C d mc ms M.2.1 M.2.2.1 M.1.cls → Y l D C mc ms b n es0 i0 (yQ D b n es0 i0 (post n) (blk n)) 0 [(0, .ref (b + i0))] [] pre [] 0) : Mk l D ia d mc ms M pre post blk := by
  intro b n i0 es0 hn hi
  refine Met.ofW (cc := M.2.1) (maxL := M.2.2.1) (ret := M.2.2.2) hy rfl ?_
  intro p e s0 m args below meth c s1 B hml hv
  obtain ⟨rfl, hKK, hw⟩ := hv
  have hts := atoms_spec (ws := .code M.1 M.2.1 M.2.2.1 M.2.2.2 :: WL) B.pre
  have hZ := body b n i0 es0 (p, e, yrm d mc ms, s0, m, [Value.ref (b + i0)].toArray, below, meth, c) ⟨B.exec, B.bytes, hml, findClass_of_methodNamed B.named, fun w h => hts w (List.mem_cons_of_mem _ h), by rw [B.returns, hret], B.notSynchronized, rfl, by rw [(name_of_methodNamed B.named B.method).1, hin], hKK⟩
  have hl := lv_entry [Value.ref (b + i0)] (n := M.2.2.1) hlen
  rw [lg_entry_eq]
  exact hZ s0.heap [] _ hw va_S.rf (by rw [hml]; exact hl)
/-- a constructor calls another's, on an object that it has made -/
theorem Y_call (hC : Yok D ia C (d + 1) mc ms cc nL own) {M : ZM} {idx mc1 ms1 j n1 : Nat} {pre : va_E} {post : Nat → va_E} {blk : Nat → List va_E} (hM : Mk l D ia d mc1 ms1 M pre post blk) (hret : M.2.2.2 = none) (hnst : Cond.methodLinkNest own idx M.1 "UpperSteps" ∈ yNW) (h1 : Cond.instanceMethod M.1 ∈ WL) (h2 : Cond.initialized M.1.cls ∈ WL) (h3 : Cond.code M.1 M.2.1 M.2.2.1 M.2.2.2 ∈ WL) (hd : (M.1.cls ≠ "java/lang/invoke/MethodHandle" ∧ M.1.cls ≠ "java/lang/invoke/VarHandle" ∧ (parseMethodDescriptor M.1.desc).map (fun d => d.parameters.length) = some 0) ∧ M.2.2.1 ≤ 19) (hin : M.1.name = "<init>") (hj : nw[j]? = some pre) (hn1 : n1 = n + nw.length) (hm : (nw.length + mc1 ≤ mc ∧ (blk n1).length = mc1) ∧ sl + ms1 ≤ ms) (hst : (St.map fun v => v.category).sum ≤ 8) (dd : decode cc pc = .ok (.invokespecial idx, 3)) (kk : Y l D C mc ms b n es0 i0 Qc (pc + 3) V St e0 (nw.set j (post n1) ++ blk n1) (sl + ms1)) : Y l D C mc ms b n es0 i0 Qc pc V (.ref (n + j) :: St) e0 nw sl := by
  obtain ⟨p, e, R, s0, m, args, below, meth, c0⟩ := C
  obtain ⟨hx, hb, hml, hown, hts, hr, hlk, hR, hnm, hKK⟩ := hC
  intro H locs ls hw hS hl
  subst hR
  have hlj : j < nw.length := (List.getElem?_eq_some_iff.mp hj).1
  obtain ⟨⟨w1, w2⟩, w3, w4, w5, w6⟩ := id hw
  -- the callee's cells: all of ours
  have hlen : (es0.set i0 e0 ++ nw).length = es0.length + nw.length := by rw [List.length_append, List.length_set]
  have hat : ∀ i e, (es0.set i0 e0 ++ nw)[i]? = some e → va_at D vwCl (b + i, e) H := fun i e hi => by
    by_cases c : i < es0.length
    · rw [List.getElem?_append_left (by rw [List.length_set]; exact c), List.getElem?_set] at hi
      by_cases c2 : i0 = i
      · subst c2
        rw [if_pos rfl, if_pos c] at hi
        cases hi
        exact w5
      · rw [if_neg c2] at hi
        exact w4 i e (Ne.symm c2) hi
    · rw [List.getElem?_append_right (by rw [List.length_set]; omega), List.length_set] at hi
      have := w6 _ e hi
      rw [w1, show b + es0.length + (i - es0.length) = b + i by omega] at this
      exact this
  have ej : (es0.set i0 e0 ++ nw)[es0.length + j]? = some pre := by
    rw [List.getElem?_append_right (by rw [List.length_set]; omega), List.length_set, show es0.length + j - es0.length = j by omega]
    exact hj
  have hMt := hM b n1 (es0.length + j) (es0.set i0 e0 ++ nw) (by rw [hlen, hn1, w1]; omega) ej
  have eb : b + (es0.length + j) = n + j := by omega
  rw [eb] at hMt
  have hYc : Yw D b n1 (es0.set i0 e0 ++ nw) (es0.length + j) pre [] H := ⟨⟨by rw [hlen, hn1, w1]; omega, by rw [hlen]; omega⟩, by rw [w3, hn1]; rfl, fun i e _ he => hat i e he, hat _ _ ej, fun i e he => by simp at he⟩
  have hRm : (yrm d mc1 ms1).frames + 1 ≤ (yrm (d + 1) mc ms).frames ∧ 8 + (M.2.2.1 + 11) + (yrm d mc1 ms1).locals ≤ (yrm (d + 1) mc ms).locals := ⟨Nat.le_refl _, by simp only [yrm]; omega⟩
  have hr3 : Cond.code M.1 M.2.1 M.2.2.1 none ∈ WL := by rw [← hret]; exact h3
  have hg : GoodIn WL (.code M.1 M.2.1 M.2.2.1 none :: WL) := fun w h => by
    rcases List.mem_cons.mp h with rfl | h
    · exact zWL_good _ hr3
    · exact zWL_good w h
  rw [hret] at hMt
  have cw := va_cnB (own := own) (index := idx) (args := args) (s := s0) (R := yrm (d + 1) mc ms) (rm := yrm d mc1 ms1) (mc := mc1) (ms := ms1) (ws := .code M.1 M.2.1 M.2.2.1 none :: WL) 0 hts hg rfl rfl rfl (hKK.2.1 _ hnst) (hts _ h2) hd.1 hRm
  have hrun := va_runIN (Ts := WL) (nL := c0.maxLocals) (g := F0 m pc ls (.ref (n + j) :: St)) (rest := St) (As := []) (b := n + j) (cells := nw.length) (slots := sl) (locs := locs) (e := e) (below := below) (meth := meth) ⟨hx, hb, rfl, hown, hts⟩ hMt ⟨cw, hin, hts _ h1⟩ ⟨fun a U g mk q => ⟨q.1, yK_call q.2.1, q.2.2⟩, fun U hU hWm => ⟨rfl, yK_warm hWm hKK, by rw [hU]; exact hYc⟩⟩ rfl rfl hl.1 rfl (by simpa using hst) dd ⟨hm.1.1, hm.2⟩
  intro T hT Xs
  obtain ⟨v, st0, t, T2, L, h0, X2, hL, g1, g2, ⟨⟨hv, hwt⟩, hz, hk⟩, st⟩ := hrun T hT Xs
  cases hv
  rw [h0] at hz hk
  obtain ⟨⟨v1, v2⟩, v3, v4, v5, v6⟩ := hwt
  have hlb : (nw.set j (post n1) ++ blk n1).length = nw.length + mc1 := by rw [List.length_append, List.length_set, hm.1.2]
  have hY2 : Yw D b n es0 i0 e0 (nw.set j (post n1) ++ blk n1) T2.heap := by
    rw [g1]
    refine ⟨⟨w1, w2⟩, by rw [v3, hlb, hm.1.2]; omega, fun i e hi he => ?_, ?_, fun i e he => ?_⟩
    · have hli : i < es0.length := (List.getElem?_eq_some_iff.mp he).1
      refine v4 i e (by omega) ?_
      rw [List.getElem?_append_left (by rw [List.length_set]; exact hli), List.getElem?_set, if_neg (Ne.symm hi)]
      exact he
    · refine v4 i0 e0 (by omega) ?_
      rw [List.getElem?_append_left (by rw [List.length_set]; exact w2), List.getElem?_set, if_pos rfl, if_pos w2]
    · by_cases c : i < nw.length
      · rw [List.getElem?_append_left (by rw [List.length_set]; exact c), List.getElem?_set] at he
        by_cases c2 : j = i
        · subst c2
          rw [if_pos rfl, if_pos c] at he
          cases he
          rw [eb] at v5
          exact v5
        · rw [if_neg c2] at he
          have := v4 (es0.length + i) e (by omega) (by
            rw [List.getElem?_append_right (by rw [List.length_set]; omega), List.length_set, show es0.length + i - es0.length = i by omega]
            exact he)
          rw [show b + (es0.length + i) = n + i by omega] at this
          exact this
      · rw [List.getElem?_append_right (by rw [List.length_set]; omega), List.length_set] at he
        have := v6 _ e he
        rw [show n1 + (i - nw.length) = n + i by omega] at this
        exact this
  rw [← hlb] at X2
  obtain ⟨t2, a1, b1⟩ := kk T2.heap (locs ++ L) ls hY2 ⟨Nat.le_trans hS.1 (by rw [g1]; exact hz), fun q h1 h2 => by rw [g1, hk q (Nat.lt_of_lt_of_le h1 hS.1) h2]; exact hS.2.1 q h1 h2, fun q hq => by
      rcases List.mem_append.mp hq with h | h
      · exact hS.2.2 q h
      · exact hL q h⟩ hl T2 rfl X2
  exact ⟨t2, st t2 a1, b1⟩
end YL
