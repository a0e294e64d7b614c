/-! A row of ten rows: multianewarray -/
def mnF (h i : Nat) : Nat → Value := fun j => if j < i then .ref (h + 1 + j) else .null
def mnS (T : State) (cA cI : ClassId) : Nat → State
  | 0 => T.pushCell (arrV cA 10 (mnF T.heap.size 0))
  | i + 1 => ((mnS T cA cI i).pushCell (arrV cI 84 (fun _ => .int 0))).setCell T.heap.size ((arrV cA 10 (mnF T.heap.size i)).setSlot i (.ref (T.heap.size + 1 + i)))
theorem mnF_next (h i : Nat) (cA : ClassId) : (arrV cA 10 (mnF h i)).setSlot i (.ref (h + 1 + i)) = arrV cA 10 (mnF h (i + 1)) := by
  rw [arrV_store]
  congr 1
  funext j
  unfold updV mnF
  by_cases e : j = i
  · subst e
    simp
  · by_cases c : j < i
    · simp [e, c, Nat.lt_succ_of_lt c]
    · have c2 : ¬ j < i + 1 := by omega
      simp [e, c, c2]
theorem mnS_facts (T : State) (cA cI : ClassId) : ∀ i, (mnS T cA cI i).heap.size = T.heap.size + 1 + i ∧ (mnS T cA cI i).heap[T.heap.size]? = some (arrV cA 10 (mnF T.heap.size i)) ∧ (mnS T cA cI i).vm = T.vm ∧ (mnS T cA cI i).slotsUsed = T.slotsUsed + 10 + i * 84 ∧ (∀ q, q < T.heap.size → (mnS T cA cI i).heap[q]? = T.heap[q]?) ∧ (∀ j, j < i → (mnS T cA cI i).heap[T.heap.size + 1 + j]? = some (arrV cI 84 (fun _ => .int 0)))
  | 0 => ⟨by simp [mnS], by simp [mnS], rfl, by simp [mnS, arrV_size], fun q hq => State.heap_pushCell_of_lt _ _ hq, fun j hj => absurd hj (Nat.not_lt_zero j)⟩
  | i + 1 => by
    obtain ⟨a1, a2, a3, a4, a5, a6⟩ := mnS_facts T cA cI i
    have hlt : T.heap.size < (mnS T cA cI i).heap.size := by omega
    have hb : ((mnS T cA cI i).pushCell (arrV cI 84 (fun _ => .int 0))).heap[T.heap.size]? = some (arrV cA 10 (mnF T.heap.size i)) := by rw [State.heap_pushCell_of_lt (h := hlt)]; exact a2
    refine ⟨?_, ?_, ?_, ?_, fun q hq => ?_, fun j hj => ?_⟩
    · simp [mnS, State.setCell, a1]
      omega
    · rw [← mnF_next]
      exact State.heap_setCell_self hb
    · simp [mnS, a3]
    · simp [mnS, a4, arrV_size]
      omega
    · show (((mnS T cA cI i).pushCell _).setCell T.heap.size _).heap[q]? = _
      rw [State.heap_setCell_other (Nat.ne_of_gt hq), State.heap_pushCell_of_lt (h := show q < (mnS T cA cI i).heap.size by omega)]
      exact a5 q hq
    · show (((mnS T cA cI i).pushCell _).setCell T.heap.size _).heap[T.heap.size + 1 + j]? = _
      rw [State.heap_setCell_other (show T.heap.size ≠ T.heap.size + 1 + j by omega)]
      by_cases c : j < i
      · rw [State.heap_pushCell_of_lt (h := show T.heap.size + 1 + j < (mnS T cA cI i).heap.size by omega)]
        exact a6 j c
      · have e : T.heap.size + 1 + j = (mnS T cA cI i).heap.size := by omega
        rw [e]
        simp
theorem mnS_top (T : State) (g : JFrame) (cA cI : ClassId) : ∀ i, mnS (T.setTop g) cA cI i = (mnS T cA cI i).setTop g
  | 0 => rfl
  | i + 1 => by simp only [mnS, mnS_top T g cA cI i, State.heap_setTop, State.pushCell_setTop, State.setCell_setTop]
section WMN
variable {p : Program} {l : Launch} {e : Env} {R : Room} {s : State} {m : MethodId} {args : Array Value} {below : List Frame} {meth : Method} {c : Code} {H : Heap} {T : State} {locs : List Loc} {cells slots : Nat} {Q : State → Prop} {cc : ByteArray} {pc : Nat} {ls : Array Slot} {rest : List Value} {D : va_G} {ia : Nat → ClassId}
theorem mnS_stand (X : Stand p l e R s m args below meth c T locs cells slots) (cA cI : ClassId) : ∀ i, ∃ L : List Loc, (∀ q ∈ L, q.base = T.heap.size) ∧ Stand p l e R s m args below meth c (mnS T cA cI i) (locs ++ L) (cells + 1 + i) (slots + 10 + i * 84)
  | 0 => by
    have h := X.pushed (arrV cA 10 (mnF T.heap.size 0))
    rw [arrV_size] at h
    exact ⟨[], fun q hq => absurd hq List.not_mem_nil, by simpa [mnS] using h⟩
  | i + 1 => by
    obtain ⟨L, hL, Xi⟩ := mnS_stand X cA cI i
    obtain ⟨a1, a2, -⟩ := mnS_facts T cA cI i
    have hlt : T.heap.size < (mnS T cA cI i).heap.size := by omega
    have hb : ((mnS T cA cI i).pushCell (arrV cI 84 (fun _ => .int 0))).heap[T.heap.size]? = some (arrV cA 10 (mnF T.heap.size i)) := by rw [State.heap_pushCell_of_lt (h := hlt)]; exact a2
    have h := (Xi.pushed (arrV cI 84 (fun _ => .int 0))).stored hb i (.ref (T.heap.size + 1 + i))
    rw [arrV_size, List.append_assoc] at h
    refine ⟨L ++ [⟨T.heap.size, i⟩], fun q hq => ?_, ?_⟩
    · rcases List.mem_append.mp hq with h1 | h1
      · exact hL q h1
      · rw [List.mem_singleton.mp h1]
    · rw [show slots + 10 + (i + 1) * 84 = slots + 10 + i * 84 + 84 by omega]
      exact h
theorem mnF_0 (h : Nat) : mnF h 0 = fun _ => .null := by
  funext j
  unfold mnF
  rw [if_neg (Nat.not_lt_zero j)]
theorem wp_mn {E : CtlPost} {dB : Bool} {acts : List Action} {cA cI cc1 : ClassId} {kA kI : Class} (hk : T.vm.classes[cA]? = some kA) (hkind : kA.kind = .array cI (.array .int)) (hkI : T.vm.classes[cI]? = some kI) (hkindI : kI.kind = .array cc1 .int) (hlim : 850 ≤ e.platform.arrayLengthLimit) (hmb : 4000 ≤ e.platform.maxHeapBytes) (hc : T.heap.size + 11 ≤ e.platform.maxCells) (hs : T.slotsUsed + 850 ≤ e.platform.maxSlots) {QA : Addr → Pre} (hq : ∀ d1 acts1, QA T.heap.size d1 acts1 (mnS T cA cI 10)) : wp (multianewarray.make cA [10, 84]) QA E e dB acts T := by
  have h10 : ¬ (10 : Int32) < 0 := by decide
  have h84 : ¬ (84 : Int32) < 0 := by decide
  have t10 : (10 : Int32).toNatClampNeg = 10 := by decide
  have t84 : (84 : Int32).toNatClampNeg = 84 := by decide
  have cb : componentBytes (.array .int) = 4 := rfl
  have cb2 : componentBytes .int = 4 := rfl
  have hfind : ([84].find? (fun x : Int32 => decide (x < 0))) = none := by decide
  rw [multianewarray.make]
  simp only [wp_bind', W.ite, h10, if_false, wp_pure', W.theClass, hk, hkind, Option.some.injEq, exists_eq_left', t10]
  refine W.newArray_of hk hkind (by omega) (by rw [cb]; omega) (by omega) (by omega) rfl (fun acts1 => ?_)
  simp only [hfind]
  rw [ite_self, wp_bind', Std.Legacy.Range.forIn_eq_forIn_range']
  have hsz : ([:10] : Std.Legacy.Range).size = 10 := by decide
  rw [hsz]
  have e0 : T.pushCell { cls := cA, slots := Array.replicate 10 .null } = mnS T cA cI 0 := by
    unfold mnS
    rw [mnF_0, ← arrV_new]
  rw [e0]
  show wp (forIn (List.range' 0 10 1) PUnit.unit _) _ E e dB acts1 _
  refine wp_forIn_inv (fun rs s1 => ∃ i, i ≤ 10 ∧ rs = List.range' i (10 - i) ∧ s1 = mnS T cA cI i) _ _ ⟨0, Nat.zero_le _, rfl, rfl⟩ ?_ ?_
  · rintro x rs s1 d1 acts2 Q1 ⟨i, hi, hl, rfl⟩ hnext
    have hlt : i < 10 := by
      apply Classical.byContradiction
      intro q
      rw [show 10 - i = 0 by omega] at hl
      cases hl
    rw [show 10 - i = (10 - (i + 1)) + 1 by omega, List.range'_succ] at hl
    obtain ⟨rfl, hrs⟩ := List.cons.inj hl
    obtain ⟨f1, f2, f3, f4, -, -⟩ := mnS_facts T cA cI x
    have hlt0 : T.heap.size < (mnS T cA cI x).heap.size := by omega
    simp only [wp_bind']
    rw [multianewarray.make]
    simp only [wp_bind', W.ite, h84, if_false, wp_pure', W.theClass, f3, hkI, hkindI, Option.some.injEq, exists_eq_left', t84]
    refine W.newArray_of (by rw [f3]; exact hkI) hkindI (by omega) (by rw [cb2]; omega) (by rw [f1]; omega) (by rw [f4]; omega) rfl (fun acts3 => ?_)
    simp only [wp_bind', W.writeLoc, wp_pure']
    have e1 : (mnS T cA cI x).pushCell { cls := cI, slots := Array.replicate 84 (defaultValue .int) } = (mnS T cA cI x).pushCell (arrV cI 84 (fun _ => .int 0)) := by
      rw [← arrV_new]
      rfl
    rw [e1]
    refine ⟨arrV cA 10 (mnF T.heap.size x), by rw [State.heap_pushCell_of_lt (h := hlt0)]; exact f2, (fun q => by cases q), (by rw [arrV_size]; exact hlt), ?_, hnext _ _ _ ⟨x + 1, hlt, hrs, ?_⟩⟩
    · show State.fitsSlot _ cA .none x _ = true
      simp [State.fitsSlot, State.slotType?, f3, hk, hkind, fits]
    · rw [f1]
      rfl
  · rintro s1 d1 acts2 ⟨i, hi, hl, rfl⟩
    have hiN : i = 10 := by
      apply Classical.byContradiction
      intro q
      rw [show 10 - i = (10 - (i + 1)) + 1 by omega, List.range'_succ] at hl
      cases hl
    subst hiN
    simp only [wp_pure']
    exact hq _ _
theorem w_multi (hx : p.tables.exec = Jvm.exec) (hb : c.code = cc) {own : String} {idx : Nat} (hown : s.vm.findClass own = some m.cls) (hcl : (Cond.classLink own idx "[[I").before args s = true) (hK : va_K D vwCl (ztys ia) s) (h5 : y5 ia s) (dd : decode cc pc = .ok (.multianewarray idx 2, 4)) (hcells : cells + 11 ≤ R.cells) (hslots : slots + 850 ≤ R.slots)
    (kk : ∀ (H1 : Heap) (L : List Loc), H1.size = H.size + 11 → H1[H.size]? = some (arrV (ia 5) 10 (mnF H.size 10)) → (∀ j, j < 10 → H1[H.size + 1 + j]? = some (arrV (ia 0) 84 (fun _ => .int 0))) → (∀ q, q < H.size → H1[q]? = H[q]?) → (∀ q ∈ L, q.base = H.size) → W p l e R s m args below meth c H1 (locs ++ L) (cells + 11) (slots + 850) Q (F0 m (pc + 4) ls (.ref H.size :: rest))) : W p l e R s m args below meth c H locs cells slots Q (F0 m pc ls (.int 84 :: .int 10 :: rest)) := by
  intro T hT X
  subst hT
  subst hb
  have hpl : e.platform.magicAccessors = ({} : Platform).magicAccessors := by rw [X.admits.platform]
  obtain ⟨kA, hkA, hkindA⟩ := h5
  obtain ⟨-, kI, hkI, cc1, hkindI⟩ := (hK.2 0 _ rfl).1 84 (fun _ => .int 0)
  have hkI : s.vm.classes[ia 0]? = some kI := hkI
  have hname : s.vm.findClass "[[I" = some (ia 5) := (hK.2 5 _ rfl).2
  obtain ⟨c0, hfc0, hlink⟩ := Cond.classLink_spec hown hcl e.platform hpl
  cases Option.some.inj (hname.symm.trans hfc0)
  obtain ⟨hg1, hwarm1, hready1⟩ := State.classEntry (e := e) X.warmed hlink
  generalize T.vm.noted m.cls idx (.cls (ia 5)) = vm1 at hg1 hwarm1 hready1
  have hal : s.vm.Alike vm1 := hwarm1.alike
  obtain ⟨kA1, hkA1, heA⟩ := hal.2.2 _ _ hkA
  obtain ⟨kI1, hkI1, heI⟩ := hal.2.2 _ _ hkI
  have X1 := X.noted hwarm1
  obtain ⟨L, hL, XF⟩ := mnS_stand X1 (ia 5) (ia 0) 10
  obtain ⟨m1, m2, m3, m4, m5, m6⟩ := mnS_facts (T.setVm vm1) (ia 5) (ia 0) 10
  obtain ⟨hr1, hr2⟩ := X.roomAbove hcells hslots
  obtain ⟨t, a1, b1⟩ := kk (mnS (T.setVm vm1) (ia 5) (ia 0) 10).heap L m1 m2 m6 m5 hL (mnS (T.setVm vm1) (ia 5) (ia 0) 10) rfl XF
  refine ⟨t, ?_, b1⟩
  jvm_step X.here [hx, dd]
  simp only [multianewarray.sem, wp_bind', W.resolveClassAt_links (State.method?_setTop (F0 m pc ls (.int 84 :: .int 10 :: rest)) X.here.top) hg1]
  rw [W.popN, if_neg (by decide)]
  refine ⟨F0 m pc ls (.int 84 :: .int 10 :: rest), State.topJava?_setTop' (s := T.setVm vm1) _ X.here.top, [.int 10, .int 84], rest, rfl, rfl, ?_⟩
  simp only [List.mapM_cons, List.mapM_nil, wp_bind', wp_pure']
  refine wp_mn (kA := kA1) (kI := kI1) hkA1 (by rw [heA]; exact hkindA) hkI1 (by rw [heI]; exact hkindI) (by rw [Launch.admits_arrayLengthLimit X.admits]; decide) (by rw [Launch.admits_maxHeapBytes X.admits]; decide) (by show T.heap.size + 11 ≤ _; omega) (by show T.slotsUsed + 850 ≤ _; omega) (fun d1 acts1 => ?_)
  have eS : ((T.setTop (F0 m pc ls (.int 84 :: .int 10 :: rest))).setVm vm1).setTop (F0 m pc ls rest) = (T.setVm vm1).setTop (F0 m pc ls rest) := by
    show ((T.setVm vm1).setTop _).setTop _ = _
    rw [State.setTop_setTop]
  rw [show ({ F0 m pc ls (.int 84 :: .int 10 :: rest) with stack := rest } : JFrame) = F0 m pc ls rest from rfl, eS, mnS_top]
  simp only [wp_bind', W.mark, W.pushRef, State.topJava?_setTop' _ XF.here.top, Option.some.injEq, exists_eq_left', State.setTop_setTop, State.heap_setTop]
  intro acts
  simp [jvm, XF.here.top]
  exact a1
end WMN
