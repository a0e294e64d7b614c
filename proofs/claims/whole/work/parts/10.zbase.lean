/-! THE STORE: all objects of the class and of the reference by number, their ints, longs and rows as functions; no method but the constructors makes anything -/
abbrev OV : Type := (Nat → Int32) × (Nat → Int64) × (Nat → Nat → Int32)
abbrev ZS : Type := Nat → OV
abbrev ZA : Type := Nat → Nat → Nat
abbrev ZM : Type := MethodName × ByteArray × Nat × Option FieldType

/-- the class of an object, by its number: 0 UpperSteps; 1 house, 2 trial, 3 the parser's house, 4 the running steps' other, 5 6 the images' houses; 7 sightings, 8 9 the images'; 10 11 images; 12 to 15 sheets; 16 tape; 17 parser; 18 running steps; 19 outlook; 20 the reference -/
def zcls (o : Nat) : Nat := [8, 0, 0, 0, 0, 0, 0, 6, 6, 6, 1, 1, 5, 5, 5, 5, 7, 3, 4, 2, 9].getD o 99
/-- the object that a field leads to -/
def ztg (o k : Nat) : Nat := if o = 0 then [1, 2, 17, 99, 7, 99, 99, 99, 99, 99, 18, 19].getD k 99 else if o = 17 then (if k = 4 then 16 else 3) else if o = 18 then 4 else (if k = 1 then o - 5 else o - 2)

/-- the fields of an object of class c -/
def zfs (ad : ZA) (c o : Nat) (v : OV) : List Value := match c with
  | 0 => [.int (v.1 0), .ref (ad o 2), .ref (ad o 3), .ref (ad o 4), .int (v.1 4), .ref (ad o 6), .ref (ad o 7), .ref (ad o 8), .ref (ad o 9), .int (v.1 9), .int (v.1 10), .int (v.1 11), .int (v.1 12), .int (v.1 13)]
  | 1 => [.int (v.1 0), .ref (ad (ztg o 1) 0), .ref (ad (ztg o 2) 0)]
  | 2 => [.ref (ad o 1), .ref (ad o 2)]
  | 3 => [.int (v.1 0), .int (v.1 1), .int (v.1 2), .int (v.1 3), .ref (ad (ztg o 4) 0), .ref (ad (ztg o 5) 0)]
  | 4 => [.int (v.1 0), .ref (ad o 2), .ref (ad o 3), .ref (ad (ztg o 3) 0)]
  | 5 => [.int (v.1 0), .int (v.1 1), .ref (ad o 3)]
  | 6 => [.int (v.1 0), .ref (ad o 2), .ref (ad o 3), .ref (ad o 4)]
  | 7 => [.ref (ad o 1), .int (v.1 1), .int (v.1 2), .int (v.1 3), .int (v.1 4)]
  | 8 => [.ref (ad (ztg o 0) 0), .ref (ad (ztg o 1) 0), .ref (ad (ztg o 2) 0), .int (v.1 3), .ref (ad (ztg o 4) 0), .ref (ad o 6), .ref (ad o 7), .int (v.1 7), .ref (ad o 9), .ref (ad o 10), .ref (ad (ztg o 10) 0), .ref (ad (ztg o 11) 0)]
  | 9 => [.ref (ad o 1), .ref (ad o 2), .ref (ad o 3), .int (v.1 3), .int (v.1 4), .ref (ad o 6), .int (v.1 6), .int (v.1 7), .int (v.1 8), .int (v.1 9), .ref (ad o 11), .int (v.1 11), .int (v.1 12), .int (v.1 13), .int (v.1 14), .int (v.1 15), .int (v.1 16), .int (v.1 17), .int (v.1 18), .int (v.1 19), .int (v.1 20), .int (v.1 21), .ref (ad o 23), .ref (ad o 24), .long (v.2.1 24), .long (v.2.1 25), .long (v.2.1 26), .ref (ad o 28), .ref (ad o 29), .ref (ad o 30), .ref (ad o 31), .ref (ad o 32), .int (v.1 32), .ref (ad o 34)]
  | _ => []
/-- the kind of the row in a slot: 0 int, 1 byte, 2 boolean, 3 images, 4 sheets, 5 rows -/
def zak (c k : Nat) : Nat := if c = 7 ∧ k = 0 then 1 else if c = 9 ∧ k = 2 then 2 else if c = 8 ∧ k = 5 then 3 else if c = 8 ∧ k = 6 then 4 else if c = 2 ∧ k = 0 then 5 else 0
def zal (c k : Nat) : Nat := match c, k with
  | 0, 1 => 8
  | 0, 2 => 8
  | 0, 3 => 8
  | 0, 5 => 4
  | 0, 6 => 4
  | 0, 7 => 4
  | 0, 8 => 4
  | 2, 0 => 10
  | 2, 1 => 9
  | 2, 10 => 84
  | 2, 11 => 84
  | 2, 12 => 84
  | 2, 13 => 84
  | 2, 14 => 84
  | 2, 15 => 84
  | 2, 16 => 84
  | 2, 17 => 84
  | 2, 18 => 84
  | 2, 19 => 84
  | 4, 1 => 8
  | 4, 2 => 8
  | 5, 2 => 40
  | 6, 1 => 6
  | 6, 2 => 6
  | 6, 3 => 6
  | 7, 0 => 160
  | 8, 5 => 2
  | 8, 6 => 4
  | 8, 8 => 4
  | 8, 9 => 4
  | 9, 0 => 186
  | 9, 1 => 62
  | 9, 2 => 2
  | 9, 5 => 62
  | 9, 10 => 160
  | 9, 22 => 4
  | 9, 23 => 4
  | 9, 27 => 84
  | 9, 28 => 840
  | 9, 29 => 4
  | 9, 30 => 4
  | 9, 31 => 160
  | 9, 33 => 62
  | _, _ => 0
def zsub (c : Nat) : List Nat := match c with
  | 0 => [0, 2, 3, 4, 6, 7, 8, 9]
  | 1 => [0]
  | 2 => [0, 1, 2, 11, 12, 13, 14, 15, 16, 17, 18, 19, 20]
  | 3 => [0]
  | 4 => [0, 2, 3]
  | 5 => [0, 3]
  | 6 => [0, 2, 3, 4]
  | 7 => [0, 1]
  | 8 => [0, 6, 7, 9, 10]
  | 9 => [0, 1, 2, 3, 6, 11, 23, 24, 28, 29, 30, 31, 32, 34]
  | _ => []
def zCL : List (Nat × Nat) := (List.range 21).flatMap fun o => (zsub (zcls o)).map fun k => (o, k)
/-- what a row of references holds -/
def zrf (ad : ZA) (o k : Nat) (i : Nat) : Option Nat := if k = 5 then some (ad (10 + i) 0) else if k = 6 then some (ad (12 + i) 0) else some (ad o (10 + i + 1))
/-- a row of an object, as a cell -/
def zrow (ad : ZA) (ia : Nat → ClassId) (o c k : Nat) (v : OV) : va_E := if zak c k ≤ 2 then .inl (ia (zak c k), zal c k, .inl (v.2.2 k)) else .inl (ia (zak c k), zal c k, .inr (.inr (.inr (.inr (zrf ad o k)))))
/-- the cell of object o, part k -/
def zce (ad : ZA) (ia : Nat → ClassId) (s : ZS) (o k : Nat) : va_E := match k with
  | 0 => .inr (zcls o, zfs ad (zcls o) o (s o))
  | k + 1 => zrow ad ia o (zcls o) k (s o)
def zLL (ad : ZA) : List Nat := zCL.map (fun q => ad q.1 q.2)
def zAd (ad : ZA) : Nat → Prop := fun q => q ∈ zLL ad
def ztys (ia : Nat → ClassId) : List (ClassId × FieldType) := [(ia 0, .int), (ia 1, .byte), (ia 2, .boolean), (ia 3, .object "UpperSteps$Image"), (ia 4, .object "UpperSteps$Sheet"), (ia 5, .array .int)]
/-- the heap holds the store -/
def zW (ad : ZA) (D : va_G) (ia : Nat → ClassId) (s : ZS) (H : Heap) : Prop := ∃ f : Nat → va_E, (∀ q ∈ zCL, f (ad q.1 q.2) = zce ad ia s q.1 q.2) ∧ va_P D vwCl (va_pl (zLL ad) f) H
/-- the links to private members of nest mates -/
def zNW : List Cond := [.methodLinkNest "UpperSteps$House" 100 yX8_exchange "UpperSteps", .methodLinkNest "UpperSteps$Parser" 125 yX8_outside "UpperSteps", .methodLinkNest "UpperSteps$Sheet" 22 yX8_outside "UpperSteps"]
/-- the words that the parser knows, as constants of its class -/
def zsi : List Nat := [68, 77, 83, 85, 87, 89]
def zst : List String := ["book", "guest", "nephew", "lord", "maid", "steps"]
def zsl : List Nat := [4, 5, 6, 4, 4, 5]
def zsb : List (List Int32) := [[98, 111, 111, 107], [103, 117, 101, 115, 116], [110, 101, 112, 104, 101, 119], [108, 111, 114, 100], [109, 97, 105, 100], [115, 116, 101, 112, 115]]
/-- constant texts: string i at ad 30 i, its bytes at ad 31 i; two statics of the JDK's -/
def zTx (ad : ZA) (U : State) : Prop := (∀ i, i < 6 → vk_R "UpperSteps$Parser" (zsi.getD i 0) (zst.getD i "") (ad 30 i) U) ∧ vk_S 6 zsl zsb (ad 30) (ad 31) (zAd ad) U U.heap ∧ va_Z "java/lang/String" "COMPACT_STRINGS" "Z" (.int 1) (zAd ad) U U.heap ∧ va_Zq "jdk/internal/util/Preconditions" "SIOOBE_FORMATTER" "Ljava/util/function/BiFunction;" (zAd ad) U U.heap
def zK (ad : ZA) (D : va_G) (ia : Nat → ClassId) (U : State) : Prop := (zLL ad).Nodup ∧ va_K D vwCl (ztys ia) U ∧ (∀ w ∈ zNW, va_Nw w U) ∧ zTx ad U
def zP (ad : ZA) (D : va_G) (ia : Nat → ClassId) (s : ZS) : State → Prop := fun U => zK ad D ia U ∧ zW ad D ia s U.heap
def zQ (ad : ZA) (D : va_G) (ia : Nat → ClassId) (X : Option Value) (Y : ZS) : Array Value → State → Outcome → State → Prop := fun _ st oc t => (oc = .returned X ∧ zW ad D ia Y t.heap) ∧ va_F (zAd ad) st t
def zrm (d : Nat) : Room := { frames := d, cells := 0, slots := 0, locals := 38 * d }
/-- METHOD M, called with av over the store s, returns X and leaves the store Y; d frames are left to it -/
def Ev (l : Launch) (ad : ZA) (D : va_G) (ia : Nat → ClassId) (d : Nat) (M : ZM) (av : List Value) (s : ZS) (X : Option Value) (Y : ZS) : Prop :=
  Met l M.1 (.code M.1 M.2.1 M.2.2.1 M.2.2.2 :: WL) (zrm d) (va_Pc av (zP ad D ia s)) (zQ ad D ia X Y) 0 0 (zAd ad)
abbrev ZC : Type := Program × Env × Room × State × MethodId × Array Value × List Frame × Method × Code
/-- THE FRAME of a method, at pc, with locals V and stack St over the store s, returns X and leaves Y -/
def Z (l : Launch) (ad : ZA) (D : va_G) (ia : Nat → ClassId) (C : ZC) (X : Option Value) (Y : ZS) (pc : Nat) (V : List (Nat × Value)) (St : List Value) (s : ZS) : Prop := match C with
  | (p, e, R, s0, m, args, below, meth, c) => ∀ (H : Heap) (locs : List Loc) (ls : Array Slot), zW ad D ia s H → va_S (zAd ad) s0.heap H locs → lv_has ls c.maxLocals V → W p l e R s0 m args below meth c H locs 0 0 (MQ below (zQ ad D ia X Y) args s0 0 0 (zAd ad)) (F0 m pc ls St)
/-- what is fixed of a frame -/
def Zok (ad : ZA) (D : va_G) (ia : Nat → ClassId) (C : ZC) (d : Nat) (cc : ByteArray) (nL : Nat) (own : String) (ret : Option FieldType) : Prop := match C with
  | (p, _, R, s0, m, args, _, meth, c) => p.tables.exec = Jvm.exec ∧ c.code = cc ∧ c.maxLocals = nL ∧ s0.vm.findClass own = some m.cls ∧ (∀ w ∈ WL, w.before args s0 = true) ∧ meth.sig.returnType = ret ∧ meth.locks = false ∧ R = zrm d ∧ zK ad D ia s0
theorem zWL_good : GoodIn WL WL := fun w h => ⟨h, good_of_word (List.mem_filter.mp h).2⟩
theorem zgood {M : ZM} {big : List Cond} (h1 : Cond.code M.1 M.2.1 M.2.2.1 M.2.2.2 ∈ WL) (hb : ∀ w ∈ WL, w ∈ big) : GoodIn big (.code M.1 M.2.1 M.2.2.1 M.2.2.2 :: WL) := fun w h => by
  have h2 : w ∈ WL := (List.mem_cons.mp h).elim (fun e => e ▸ h1) id
  exact ⟨hb w h2, (zWL_good w h2).2⟩

theorem nodup_inj {α β : Type} {g : α → β} : ∀ {L : List α}, (L.map g).Nodup → ∀ a ∈ L, ∀ b ∈ L, g a = g b → a = b
  | [], _, a, ha, _, _, _ => absurd ha List.not_mem_nil
  | x :: L, h, a, ha, b, hb, e => by
    rw [List.map_cons, List.nodup_cons] at h
    rcases List.mem_cons.mp ha with rfl | ha
    · rcases List.mem_cons.mp hb with rfl | hb
      · rfl
      · exact absurd (List.mem_map.mpr ⟨b, hb, e.symm⟩) h.1
    · rcases List.mem_cons.mp hb with hb0 | hb
      · exact absurd (List.mem_map.mpr ⟨a, ha, e.trans (congrArg g hb0)⟩) h.1
      · exact nodup_inj h.2 a ha b hb e
theorem zmem {o k : Nat} (h : k ∈ zsub (zcls o)) : (o, k) ∈ zCL := by
  have ho : o < 21 := by
    apply Classical.byContradiction
    intro hn
    have e : zcls o = 99 := by
      unfold zcls
      rw [List.getD_eq_getElem?_getD, List.getElem?_eq_none (by simpa using Nat.le_of_not_lt hn)]
      rfl
    rw [e] at h
    simp [zsub] at h
  exact List.mem_flatMap.mpr ⟨o, List.mem_range.mpr ho, List.mem_map.mpr ⟨k, h, rfl⟩⟩
theorem zD {ad : ZA} {f : Nat → va_E} (h : (zLL ad).Nodup) : va_D (zAd ad) (va_pl (zLL ad) f) := by
  constructor
  · intro i j p q hi hj e
    simp only [va_pl, List.getElem?_map, Option.map_eq_some_iff] at hi hj
    obtain ⟨a, ha, rfl⟩ := hi
    obtain ⟨b, hb, rfl⟩ := hj
    have e : a = b := e
    subst e
    obtain ⟨hi1, hi2⟩ := List.getElem?_eq_some_iff.mp ha
    obtain ⟨hj1, hj2⟩ := List.getElem?_eq_some_iff.mp hb
    have hp := List.pairwise_iff_getElem.mp h
    rcases Nat.lt_trichotomy i j with c | c | c
    · exact absurd (hi2.trans hj2.symm) (hp i j hi1 hj1 c)
    · exact c
    · exact absurd (hj2.trans hi2.symm) (hp j i hj1 hi1 c)
  · intro k q hk
    simp only [va_pl, List.getElem?_map, Option.map_eq_some_iff] at hk
    obtain ⟨a, ha, rfl⟩ := hk
    exact List.mem_of_getElem? ha
theorem zget {ad : ZA} {f : Nat → va_E} {ia : Nat → ClassId} {s : ZS} (hf : ∀ q ∈ zCL, f (ad q.1 q.2) = zce ad ia s q.1 q.2) {o k : Nat} (hm : (o, k) ∈ zCL) : ∃ q0 : Nat, (va_pl (zLL ad) f)[q0]? = some (ad o k, f (ad o k)) ∧ (va_pl (zLL ad) f)[q0]? = some (ad o k, zce ad ia s o k) := by
  obtain ⟨q0, h⟩ := va_pl_get (X := []) (f := f) (L := zLL ad) (a := ad o k) (List.mem_map.mpr ⟨(o, k), hm, rfl⟩)
  have h : (va_pl (zLL ad) f)[q0]? = some (ad o k, f (ad o k)) := h
  exact ⟨q0, h, by rw [h, hf (o, k) hm]⟩
/-- a cell is changed: the store is -/
theorem zset {ad : ZA} {f : Nat → va_E} {D : va_G} {ia : Nat → ClassId} {s s' : ZS} {H1 : Heap} (hn : (zLL ad).Nodup) (hf : ∀ q ∈ zCL, f (ad q.1 q.2) = zce ad ia s q.1 q.2) {o k q0 : Nat} (hm : (o, k) ∈ zCL) (hq : (va_pl (zLL ad) f)[q0]? = some (ad o k, f (ad o k)))
    (hP : va_P D vwCl ((va_pl (zLL ad) f).set q0 (ad o k, zce ad ia s' o k)) H1) (ho : ∀ q : Nat × Nat, q ≠ (o, k) → zce ad ia s' q.1 q.2 = zce ad ia s q.1 q.2) : zW ad D ia s' H1 := by
  refine ⟨va_up f (ad o k) (zce ad ia s' o k), ?_, ?_⟩
  · intro q hqm
    by_cases e : q = (o, k)
    · subst e
      simp [va_up]
    · have hne : ad q.1 q.2 ≠ ad o k := fun h => e (nodup_inj hn q hqm (o, k) hm h)
      rw [ho q e, ← hf q hqm]
      simp [va_up, hne]
  · have h := va_pl_set (A := zAd ad) (X := []) (L := zLL ad) (f := f) (a := ad o k) (k := q0) (e := zce ad ia s' o k) (zD hn) (List.mem_map.mpr ⟨(o, k), hm, rfl⟩) hq
    have h : (va_pl (zLL ad) f).set q0 (ad o k, zce ad ia s' o k) = va_pl (zLL ad) (va_up f (ad o k) (zce ad ia s' o k)) := h
    rw [← h]
    exact hP
def setI (v : OV) (k : Nat) (x : Int32) : OV := (va_up v.1 k x, v.2.1, v.2.2)
def setL (v : OV) (k : Nat) (x : Int64) : OV := (v.1, va_up v.2.1 k x, v.2.2)
def setA (v : OV) (k : Nat) (f : Nat → Int32) : OV := (v.1, v.2.1, va_up v.2.2 k f)
def zlk (own : String) (idx c k : Nat) : Prop := ∃ q : vw_C, vwCl[c]? = some q ∧ (∀ w ∈ u_ws q.1 q.2.1 q.2.2, w ∈ WL) ∧ k < q.2.2 ∧ Cond.fieldLink own idx (q.2.1 k).1 (q.2.1 k).2.1 (q.2.1 k).2.2.1 ∈ WL
def zpk (own : String) (idx c k : Nat) (ty : FieldType) : Prop := ∃ (q : vw_C) (ty0 : Nat → FieldType), vwCl[c]? = some q ∧ (∀ w ∈ u_ws q.1 q.2.1 q.2.2, w ∈ WL) ∧ k < q.2.2 ∧ Cond.fieldLink own idx (q.2.1 k).1 (q.2.1 k).2.1 (q.2.1 k).2.2.1 ∈ WL ∧ (∀ k, k < q.2.2 → parseFieldDescriptor (q.2.1 k).2.2.1 = some (ty0 k)) ∧ (∀ a, a < q.2.2 → ∀ b, b < q.2.2 → a ≠ b → (q.2.1 a).2.1 ≠ (q.2.1 b).2.1) ∧ (q.2.1 k).2.2.2 = false ∧ parseFieldDescriptor (q.2.1 k).2.2.1 = some ty
/-- slot k of object o holds a row of a kind, n long -/
def zis (o k kind n : Nat) : Prop := k + 1 ∈ zsub (zcls o) ∧ zak (zcls o) k = kind ∧ zal (zcls o) k = n
theorem zis_of {o c k kind n : Nat} (h : zcls o = c) (h2 : (decide (k + 1 ∈ zsub c) && (zak c k == kind && zal c k == n)) = true) : zis o k kind n := by
  subst h
  simpa [zis] using h2
theorem lk_mem {V : List (Nat × Value)} {i : Nat} {v : Value} : V.lookup i = some v → (i, v) ∈ V := by
  induction V with
  | nil => intro h; simp at h
  | cons q V ih =>
    intro h
    obtain ⟨a, b⟩ := q
    rw [List.lookup_cons] at h
    by_cases e : i = a
    · subst e
      simp at h
      subst h
      exact List.mem_cons_self
    · have e2 : (i == a) = false := by simpa using e
      rw [e2] at h
      exact List.mem_cons_of_mem _ (ih h)
def zcV (own : String) (idx : Nat) (M : ZM) (n : Nat) : Prop := (Cond.methodLink own idx M.1 ∈ WL ∧ Cond.instanceMethod M.1 ∈ WL ∧ Cond.selects M.1.cls M.1 M.1 ∈ WL ∧ Cond.initialized M.1.cls ∈ WL ∧ Cond.code M.1 M.2.1 M.2.2.1 M.2.2.2 ∈ WL) ∧ (M.1.cls ≠ "java/lang/invoke/MethodHandle" ∧ M.1.cls ≠ "java/lang/invoke/VarHandle" ∧ (parseMethodDescriptor M.1.desc).map (fun d => d.parameters.length) = some n) ∧ M.2.2.1 ≤ 19
def zcS (own : String) (idx : Nat) (M : ZM) (n : Nat) : Prop := (Cond.methodLink own idx M.1 ∈ WL ∧ Cond.static M.1 ∈ WL ∧ Cond.initialized M.1.cls ∈ WL ∧ Cond.code M.1 M.2.1 M.2.2.1 M.2.2.2 ∈ WL) ∧ (M.1.cls ≠ "java/lang/invoke/MethodHandle" ∧ M.1.cls ≠ "java/lang/invoke/VarHandle" ∧ (parseMethodDescriptor M.1.desc).map (fun d => d.parameters.length) = some n) ∧ M.2.2.1 ≤ 19
def zcN (own : String) (idx : Nat) (M : ZM) (n : Nat) : Prop := (Cond.methodLinkNest own idx M.1 "UpperSteps" ∈ zNW ∧ Cond.static M.1 ∈ WL ∧ Cond.initialized M.1.cls ∈ WL ∧ Cond.code M.1 M.2.1 M.2.2.1 M.2.2.2 ∈ WL) ∧ (M.1.cls ≠ "java/lang/invoke/MethodHandle" ∧ M.1.cls ≠ "java/lang/invoke/VarHandle" ∧ (parseMethodDescriptor M.1.desc).map (fun d => d.parameters.length) = some n) ∧ M.2.2.1 ≤ 19
section ZL
variable {l : Launch} {ad : ZA} {D : va_G} {ia : Nat → ClassId} {C : ZC} {X : Option Value} {Y : ZS} {d nL pc : Nat} {cc : ByteArray} {own : String} {ret : Option FieldType} {V : List (Nat × Value)} {St : List Value} {s : ZS}

theorem Z_iconst (hC : Zok ad D ia C d cc nL own ret) {n : Int} {v : Int32} (dd : decode cc pc = .ok (.iconst n, 1)) (hv : Int32.ofInt n = v) (k : Z l ad D ia C X Y (pc + 1) V (.int v :: St) s) : Z l ad D ia C X Y pc V (St) s := by
  obtain ⟨p, e, R, s0, m, args, below, meth, c0⟩ := C
  obtain ⟨hx, hb, hml, hown, hts, hr, hlk, hR, hKK⟩ := hC
  intro H locs ls hw hS hl
  exact lv_iconst hx hb dd hv (k H locs ls hw hS hl)
theorem Z_bipush (hC : Zok ad D ia C d cc nL own ret) {n : Int} {v : Int32} (dd : decode cc pc = .ok (.bipush n, 2)) (hv : (Int8.ofInt n).toInt32 = v) (k : Z l ad D ia C X Y (pc + 2) V (.int v :: St) s) : Z l ad D ia C X Y pc V (St) s := by
  obtain ⟨p, e, R, s0, m, args, below, meth, c0⟩ := C
  obtain ⟨hx, hb, hml, hown, hts, hr, hlk, hR, hKK⟩ := hC
  intro H locs ls hw hS hl
  exact lv_bipush hx hb dd hv (k H locs ls hw hS hl)
theorem Z_sipush (hC : Zok ad D ia C d cc nL own ret) {n : Int} {v : Int32} (dd : decode cc pc = .ok (.sipush n, 3)) (hv : (Int16.ofInt n).toInt32 = v) (k : Z l ad D ia C X Y (pc + 3) V (.int v :: St) s) : Z l ad D ia C X Y pc V (St) s := by
  obtain ⟨p, e, R, s0, m, args, below, meth, c0⟩ := C
  obtain ⟨hx, hb, hml, hown, hts, hr, hlk, hR, hKK⟩ := hC
  intro H locs ls hw hS hl
  exact lv_sipush hx hb dd hv (k H locs ls hw hS hl)
theorem Z_lconst (hC : Zok ad D ia C d cc nL own ret) {n : Fin 2} {v : Int64} (dd : decode cc pc = .ok (.lconst n, 1)) (hv : Int64.ofNat (n : Nat) = v) (k : Z l ad D ia C X Y (pc + 1) V (.long v :: St) s) : Z l ad D ia C X Y pc V (St) s := by
  obtain ⟨p, e, R, s0, m, args, below, meth, c0⟩ := C
  obtain ⟨hx, hb, hml, hown, hts, hr, hlk, hR, hKK⟩ := hC
  intro H locs ls hw hS hl
  exact lv_lconst hx hb dd hv (k H locs ls hw hS hl)
theorem Z_ldc (hC : Zok ad D ia C d cc nL own ret) {idx : Nat} {v : Int32} (hc : Cond.constant own idx v ∈ WL) (dd : decode cc pc = .ok (.ldc idx, 2)) (k : Z l ad D ia C X Y (pc + 2) V (.int v :: St) s) : Z l ad D ia C X Y pc V (St) s := by
  obtain ⟨p, e, R, s0, m, args, below, meth, c0⟩ := C
  obtain ⟨hx, hb, hml, hown, hts, hr, hlk, hR, hKK⟩ := hC
  intro H locs ls hw hS hl
  exact lv_ldc hx hb hown (hts _ hc) dd (k H locs ls hw hS hl)
theorem Z_ldcw (hC : Zok ad D ia C d cc nL own ret) {idx : Nat} {v : Int32} (hc : Cond.constant own idx v ∈ WL) (dd : decode cc pc = .ok (.ldc_w idx, 3)) (k : Z l ad D ia C X Y (pc + 3) V (.int v :: St) s) : Z l ad D ia C X Y pc V (St) s := by
  obtain ⟨p, e, R, s0, m, args, below, meth, c0⟩ := C
  obtain ⟨hx, hb, hml, hown, hts, hr, hlk, hR, hKK⟩ := hC
  intro H locs ls hw hS hl
  exact lv_ldcw hx hb hown (hts _ hc) dd (k H locs ls hw hS hl)
theorem Z_ldc2 (hC : Zok ad D ia C d cc nL own ret) {idx : Nat} {v : Int64} (hc : Cond.constantLong own idx v ∈ WL) (dd : decode cc pc = .ok (.ldc2_w idx, 3)) (k : Z l ad D ia C X Y (pc + 3) V (.long v :: St) s) : Z l ad D ia C X Y pc V (St) s := by
  obtain ⟨p, e, R, s0, m, args, below, meth, c0⟩ := C
  obtain ⟨hx, hb, hml, hown, hts, hr, hlk, hR, hKK⟩ := hC
  intro H locs ls hw hS hl
  exact lv_ldc2 hx hb hown (hts _ hc) dd (k H locs ls hw hS hl)
theorem Z_iload_n (hC : Zok ad D ia C d cc nL own ret) {n : Fin 4} {i : Nat} {x : Int32} (dd : decode cc pc = .ok (.iload_n n, 1)) (hi : (n : Nat) = i) (hv : V.lookup i = some (.int x)) (k : Z l ad D ia C X Y (pc + 1) V (.int x :: St) s) : Z l ad D ia C X Y pc V (St) s := by
  obtain ⟨p, e, R, s0, m, args, below, meth, c0⟩ := C
  obtain ⟨hx, hb, hml, hown, hts, hr, hlk, hR, hKK⟩ := hC
  intro H locs ls hw hS hl
  exact lv_iload_n hx hb dd hi (hl.2.2 _ (lk_mem hv)) (k H locs ls hw hS hl)
theorem Z_iload (hC : Zok ad D ia C d cc nL own ret) {i : Nat} {x : Int32} (dd : decode cc pc = .ok (.iload i, 2)) (hv : V.lookup i = some (.int x)) (k : Z l ad D ia C X Y (pc + 2) V (.int x :: St) s) : Z l ad D ia C X Y pc V (St) s := by
  obtain ⟨p, e, R, s0, m, args, below, meth, c0⟩ := C
  obtain ⟨hx, hb, hml, hown, hts, hr, hlk, hR, hKK⟩ := hC
  intro H locs ls hw hS hl
  exact lv_iload hx hb dd (hl.2.2 _ (lk_mem hv)) (k H locs ls hw hS hl)
theorem Z_istore_n (hC : Zok ad D ia C d cc nL own ret) {n : Fin 4} {i : Nat} {x : Int32} {V2 : List (Nat × Value)} (dd : decode cc pc = .ok (.istore_n n, 1)) (hi : (n : Nat) = i) (hn : i < nL) (h2 : (i, Value.int x) :: V.filter (fun q => !(q.1 == i) && !(q.1 + 1 == i && q.2.category == 2)) = V2) (k : Z l ad D ia C X Y (pc + 1) V2 (St) s) : Z l ad D ia C X Y pc V (.int x :: St) s := by
  obtain ⟨p, e, R, s0, m, args, below, meth, c0⟩ := C
  obtain ⟨hx, hb, hml, hown, hts, hr, hlk, hR, hKK⟩ := hC
  intro H locs ls hw hS hl
  subst hml
  exact lv_istore_n hx hb dd hi hl hn h2 (fun ls2 hl2 => k H locs ls2 hw hS hl2)
theorem Z_istore (hC : Zok ad D ia C d cc nL own ret) {i : Nat} {x : Int32} {V2 : List (Nat × Value)} (dd : decode cc pc = .ok (.istore i, 2)) (hn : i < nL) (h2 : (i, Value.int x) :: V.filter (fun q => !(q.1 == i) && !(q.1 + 1 == i && q.2.category == 2)) = V2) (k : Z l ad D ia C X Y (pc + 2) V2 (St) s) : Z l ad D ia C X Y pc V (.int x :: St) s := by
  obtain ⟨p, e, R, s0, m, args, below, meth, c0⟩ := C
  obtain ⟨hx, hb, hml, hown, hts, hr, hlk, hR, hKK⟩ := hC
  intro H locs ls hw hS hl
  subst hml
  exact lv_istore hx hb dd hl hn h2 (fun ls2 hl2 => k H locs ls2 hw hS hl2)
theorem Z_lload_n (hC : Zok ad D ia C d cc nL own ret) {n : Fin 4} {i : Nat} {x : Int64} (dd : decode cc pc = .ok (.lload_n n, 1)) (hi : (n : Nat) = i) (hv : V.lookup i = some (.long x)) (k : Z l ad D ia C X Y (pc + 1) V (.long x :: St) s) : Z l ad D ia C X Y pc V (St) s := by
  obtain ⟨p, e, R, s0, m, args, below, meth, c0⟩ := C
  obtain ⟨hx, hb, hml, hown, hts, hr, hlk, hR, hKK⟩ := hC
  intro H locs ls hw hS hl
  exact lv_lload_n hx hb dd hi (hl.2.2 _ (lk_mem hv)) (k H locs ls hw hS hl)
theorem Z_lload (hC : Zok ad D ia C d cc nL own ret) {i : Nat} {x : Int64} (dd : decode cc pc = .ok (.lload i, 2)) (hv : V.lookup i = some (.long x)) (k : Z l ad D ia C X Y (pc + 2) V (.long x :: St) s) : Z l ad D ia C X Y pc V (St) s := by
  obtain ⟨p, e, R, s0, m, args, below, meth, c0⟩ := C
  obtain ⟨hx, hb, hml, hown, hts, hr, hlk, hR, hKK⟩ := hC
  intro H locs ls hw hS hl
  exact lv_lload hx hb dd (hl.2.2 _ (lk_mem hv)) (k H locs ls hw hS hl)
theorem Z_lstore_n (hC : Zok ad D ia C d cc nL own ret) {n : Fin 4} {i : Nat} {x : Int64} {V2 : List (Nat × Value)} (dd : decode cc pc = .ok (.lstore_n n, 1)) (hi : (n : Nat) = i) (hn : i + 1 < nL) (h2 : (i, Value.long x) :: V.filter (fun q => !(q.1 == i) && (!(q.1 == i + 1) && !(q.1 + 1 == i && q.2.category == 2))) = V2) (k : Z l ad D ia C X Y (pc + 1) V2 (St) s) : Z l ad D ia C X Y pc V (.long x :: St) s := by
  obtain ⟨p, e, R, s0, m, args, below, meth, c0⟩ := C
  obtain ⟨hx, hb, hml, hown, hts, hr, hlk, hR, hKK⟩ := hC
  intro H locs ls hw hS hl
  subst hml
  exact lv_lstore_n hx hb dd hi hl hn h2 (fun ls2 hl2 => k H locs ls2 hw hS hl2)
theorem Z_lstore (hC : Zok ad D ia C d cc nL own ret) {i : Nat} {x : Int64} {V2 : List (Nat × Value)} (dd : decode cc pc = .ok (.lstore i, 2)) (hn : i + 1 < nL) (h2 : (i, Value.long x) :: V.filter (fun q => !(q.1 == i) && (!(q.1 == i + 1) && !(q.1 + 1 == i && q.2.category == 2))) = V2) (k : Z l ad D ia C X Y (pc + 2) V2 (St) s) : Z l ad D ia C X Y pc V (.long x :: St) s := by
  obtain ⟨p, e, R, s0, m, args, below, meth, c0⟩ := C
  obtain ⟨hx, hb, hml, hown, hts, hr, hlk, hR, hKK⟩ := hC
  intro H locs ls hw hS hl
  subst hml
  exact lv_lstore hx hb dd hl hn h2 (fun ls2 hl2 => k H locs ls2 hw hS hl2)
theorem Z_aload_n (hC : Zok ad D ia C d cc nL own ret) {n : Fin 4} {i : Nat} {x : Nat} (dd : decode cc pc = .ok (.aload_n n, 1)) (hi : (n : Nat) = i) (hv : V.lookup i = some (.ref x)) (k : Z l ad D ia C X Y (pc + 1) V (.ref x :: St) s) : Z l ad D ia C X Y pc V (St) s := by
  obtain ⟨p, e, R, s0, m, args, below, meth, c0⟩ := C
  obtain ⟨hx, hb, hml, hown, hts, hr, hlk, hR, hKK⟩ := hC
  intro H locs ls hw hS hl
  exact lv_aload_n hx hb dd hi (hl.2.2 _ (lk_mem hv)) (k H locs ls hw hS hl)
theorem Z_aload (hC : Zok ad D ia C d cc nL own ret) {i : Nat} {x : Nat} (dd : decode cc pc = .ok (.aload i, 2)) (hv : V.lookup i = some (.ref x)) (k : Z l ad D ia C X Y (pc + 2) V (.ref x :: St) s) : Z l ad D ia C X Y pc V (St) s := by
  obtain ⟨p, e, R, s0, m, args, below, meth, c0⟩ := C
  obtain ⟨hx, hb, hml, hown, hts, hr, hlk, hR, hKK⟩ := hC
  intro H locs ls hw hS hl
  exact lv_aload hx hb dd (hl.2.2 _ (lk_mem hv)) (k H locs ls hw hS hl)
theorem Z_astore_n (hC : Zok ad D ia C d cc nL own ret) {n : Fin 4} {i : Nat} {x : Nat} {V2 : List (Nat × Value)} (dd : decode cc pc = .ok (.astore_n n, 1)) (hi : (n : Nat) = i) (hn : i < nL) (h2 : (i, Value.ref x) :: V.filter (fun q => !(q.1 == i) && !(q.1 + 1 == i && q.2.category == 2)) = V2) (k : Z l ad D ia C X Y (pc + 1) V2 (St) s) : Z l ad D ia C X Y pc V (.ref x :: St) s := by
  obtain ⟨p, e, R, s0, m, args, below, meth, c0⟩ := C
  obtain ⟨hx, hb, hml, hown, hts, hr, hlk, hR, hKK⟩ := hC
  intro H locs ls hw hS hl
  subst hml
  exact lv_astore_n hx hb dd hi hl hn h2 (fun ls2 hl2 => k H locs ls2 hw hS hl2)
theorem Z_astore (hC : Zok ad D ia C d cc nL own ret) {i : Nat} {x : Nat} {V2 : List (Nat × Value)} (dd : decode cc pc = .ok (.astore i, 2)) (hn : i < nL) (h2 : (i, Value.ref x) :: V.filter (fun q => !(q.1 == i) && !(q.1 + 1 == i && q.2.category == 2)) = V2) (k : Z l ad D ia C X Y (pc + 2) V2 (St) s) : Z l ad D ia C X Y pc V (.ref x :: St) s := by
  obtain ⟨p, e, R, s0, m, args, below, meth, c0⟩ := C
  obtain ⟨hx, hb, hml, hown, hts, hr, hlk, hR, hKK⟩ := hC
  intro H locs ls hw hS hl
  subst hml
  exact lv_astore hx hb dd hl hn h2 (fun ls2 hl2 => k H locs ls2 hw hS hl2)
theorem Z_iinc (hC : Zok ad D ia C d cc nL own ret) {i : Nat} {n : Int} {x v : Int32} {V2 : List (Nat × Value)} (dd : decode cc pc = .ok (.iinc i n, 3)) (hv : V.lookup i = some (.int x)) (hs : x + Int32.ofInt n = v) (hn : i < nL) (h2 : (i, Value.int v) :: V.filter (fun q => !(q.1 == i) && !(q.1 + 1 == i && q.2.category == 2)) = V2) (k : Z l ad D ia C X Y (pc + 3) V2 (St) s) : Z l ad D ia C X Y pc V (St) s := by
  obtain ⟨p, e, R, s0, m, args, below, meth, c0⟩ := C
  obtain ⟨hx, hb, hml, hown, hts, hr, hlk, hR, hKK⟩ := hC
  intro H locs ls hw hS hl
  subst hml
  obtain ⟨j, hj⟩ := List.getElem?_of_mem (lk_mem hv)
  exact lv_iinc hx hb dd hl (k := j) hj hs hn h2 (fun ls2 hl2 => k H locs ls2 hw hS hl2)
theorem Z_dup (hC : Zok ad D ia C d cc nL own ret) {a : Value} (dd : decode cc pc = .ok (.dup, 1)) (ha : a.category = 1) (k : Z l ad D ia C X Y (pc + 1) V (a :: a :: St) s) : Z l ad D ia C X Y pc V (a :: St) s := by
  obtain ⟨p, e, R, s0, m, args, below, meth, c0⟩ := C
  obtain ⟨hx, hb, hml, hown, hts, hr, hlk, hR, hKK⟩ := hC
  intro H locs ls hw hS hl
  exact lv_dup hx hb dd ha (k H locs ls hw hS hl)
theorem Z_dup2 (hC : Zok ad D ia C d cc nL own ret) {a b : Value} (dd : decode cc pc = .ok (.dup2, 1)) (ha : a.category = 1) (hb2 : b.category = 1) (k : Z l ad D ia C X Y (pc + 1) V (a :: b :: a :: b :: St) s) : Z l ad D ia C X Y pc V (a :: b :: St) s := by
  obtain ⟨p, e, R, s0, m, args, below, meth, c0⟩ := C
  obtain ⟨hx, hb, hml, hown, hts, hr, hlk, hR, hKK⟩ := hC
  intro H locs ls hw hS hl
  exact lv_dup2_11 hx hb dd ha hb2 (k H locs ls hw hS hl)
theorem Z_pop (hC : Zok ad D ia C d cc nL own ret) {a : Value} (dd : decode cc pc = .ok (.pop, 1)) (ha : a.category = 1) (k : Z l ad D ia C X Y (pc + 1) V (St) s) : Z l ad D ia C X Y pc V (a :: St) s := by
  obtain ⟨p, e, R, s0, m, args, below, meth, c0⟩ := C
  obtain ⟨hx, hb, hml, hown, hts, hr, hlk, hR, hKK⟩ := hC
  intro H locs ls hw hS hl
  exact lv_pop hx hb dd ha (k H locs ls hw hS hl)
theorem Z_iadd (hC : Zok ad D ia C d cc nL own ret) {x y : Int32} (dd : decode cc pc = .ok (.iadd, 1)) (k : Z l ad D ia C X Y (pc + 1) V (.int (x + y) :: St) s) : Z l ad D ia C X Y pc V (.int y :: .int x :: St) s := by
  obtain ⟨p, e, R, s0, m, args, below, meth, c0⟩ := C
  obtain ⟨hx, hb, hml, hown, hts, hr, hlk, hR, hKK⟩ := hC
  intro H locs ls hw hS hl
  exact lv_iadd hx hb dd (k H locs ls hw hS hl)
theorem Z_isub (hC : Zok ad D ia C d cc nL own ret) {x y : Int32} (dd : decode cc pc = .ok (.isub, 1)) (k : Z l ad D ia C X Y (pc + 1) V (.int (x - y) :: St) s) : Z l ad D ia C X Y pc V (.int y :: .int x :: St) s := by
  obtain ⟨p, e, R, s0, m, args, below, meth, c0⟩ := C
  obtain ⟨hx, hb, hml, hown, hts, hr, hlk, hR, hKK⟩ := hC
  intro H locs ls hw hS hl
  exact lv_isub hx hb dd (k H locs ls hw hS hl)
theorem Z_imul (hC : Zok ad D ia C d cc nL own ret) {x y : Int32} (dd : decode cc pc = .ok (.imul, 1)) (k : Z l ad D ia C X Y (pc + 1) V (.int (x * y) :: St) s) : Z l ad D ia C X Y pc V (.int y :: .int x :: St) s := by
  obtain ⟨p, e, R, s0, m, args, below, meth, c0⟩ := C
  obtain ⟨hx, hb, hml, hown, hts, hr, hlk, hR, hKK⟩ := hC
  intro H locs ls hw hS hl
  exact lv_imul hx hb dd (k H locs ls hw hS hl)
theorem Z_iand (hC : Zok ad D ia C d cc nL own ret) {x y : Int32} (dd : decode cc pc = .ok (.iand, 1)) (k : Z l ad D ia C X Y (pc + 1) V (.int (x &&& y) :: St) s) : Z l ad D ia C X Y pc V (.int y :: .int x :: St) s := by
  obtain ⟨p, e, R, s0, m, args, below, meth, c0⟩ := C
  obtain ⟨hx, hb, hml, hown, hts, hr, hlk, hR, hKK⟩ := hC
  intro H locs ls hw hS hl
  exact lv_iand hx hb dd (k H locs ls hw hS hl)
theorem Z_ior (hC : Zok ad D ia C d cc nL own ret) {x y : Int32} (dd : decode cc pc = .ok (.ior, 1)) (k : Z l ad D ia C X Y (pc + 1) V (.int (x ||| y) :: St) s) : Z l ad D ia C X Y pc V (.int y :: .int x :: St) s := by
  obtain ⟨p, e, R, s0, m, args, below, meth, c0⟩ := C
  obtain ⟨hx, hb, hml, hown, hts, hr, hlk, hR, hKK⟩ := hC
  intro H locs ls hw hS hl
  exact lv_ior hx hb dd (k H locs ls hw hS hl)
theorem Z_ishl (hC : Zok ad D ia C d cc nL own ret) {x y : Int32} (dd : decode cc pc = .ok (.ishl, 1)) (k : Z l ad D ia C X Y (pc + 1) V (.int (x <<< (y &&& 31)) :: St) s) : Z l ad D ia C X Y pc V (.int y :: .int x :: St) s := by
  obtain ⟨p, e, R, s0, m, args, below, meth, c0⟩ := C
  obtain ⟨hx, hb, hml, hown, hts, hr, hlk, hR, hKK⟩ := hC
  intro H locs ls hw hS hl
  exact lv_ishl hx hb dd (k H locs ls hw hS hl)
theorem Z_ishr (hC : Zok ad D ia C d cc nL own ret) {x y : Int32} (dd : decode cc pc = .ok (.ishr, 1)) (k : Z l ad D ia C X Y (pc + 1) V (.int (x >>> (y &&& 31)) :: St) s) : Z l ad D ia C X Y pc V (.int y :: .int x :: St) s := by
  obtain ⟨p, e, R, s0, m, args, below, meth, c0⟩ := C
  obtain ⟨hx, hb, hml, hown, hts, hr, hlk, hR, hKK⟩ := hC
  intro H locs ls hw hS hl
  exact lv_ishr hx hb dd (k H locs ls hw hS hl)
theorem Z_idiv (hC : Zok ad D ia C d cc nL own ret) {x y : Int32} (dd : decode cc pc = .ok (.idiv, 1)) (hy : ¬ y = 0) (k : Z l ad D ia C X Y (pc + 1) V (.int (x / y) :: St) s) : Z l ad D ia C X Y pc V (.int y :: .int x :: St) s := by
  obtain ⟨p, e, R, s0, m, args, below, meth, c0⟩ := C
  obtain ⟨hx, hb, hml, hown, hts, hr, hlk, hR, hKK⟩ := hC
  intro H locs ls hw hS hl
  exact lv_idiv hx hb dd hy (k H locs ls hw hS hl)
theorem Z_irem (hC : Zok ad D ia C d cc nL own ret) {x y : Int32} (dd : decode cc pc = .ok (.irem, 1)) (hy : ¬ y = 0) (k : Z l ad D ia C X Y (pc + 1) V (.int (x - x / y * y) :: St) s) : Z l ad D ia C X Y pc V (.int y :: .int x :: St) s := by
  obtain ⟨p, e, R, s0, m, args, below, meth, c0⟩ := C
  obtain ⟨hx, hb, hml, hown, hts, hr, hlk, hR, hKK⟩ := hC
  intro H locs ls hw hS hl
  exact lv_irem hx hb dd hy (k H locs ls hw hS hl)
theorem Z_ladd (hC : Zok ad D ia C d cc nL own ret) {x y : Int64} (dd : decode cc pc = .ok (.ladd, 1)) (k : Z l ad D ia C X Y (pc + 1) V (.long (x + y) :: St) s) : Z l ad D ia C X Y pc V (.long y :: .long x :: St) s := by
  obtain ⟨p, e, R, s0, m, args, below, meth, c0⟩ := C
  obtain ⟨hx, hb, hml, hown, hts, hr, hlk, hR, hKK⟩ := hC
  intro H locs ls hw hS hl
  exact lv_ladd hx hb dd (k H locs ls hw hS hl)
theorem Z_lmul (hC : Zok ad D ia C d cc nL own ret) {x y : Int64} (dd : decode cc pc = .ok (.lmul, 1)) (k : Z l ad D ia C X Y (pc + 1) V (.long (x * y) :: St) s) : Z l ad D ia C X Y pc V (.long y :: .long x :: St) s := by
  obtain ⟨p, e, R, s0, m, args, below, meth, c0⟩ := C
  obtain ⟨hx, hb, hml, hown, hts, hr, hlk, hR, hKK⟩ := hC
  intro H locs ls hw hS hl
  exact lv_lmul hx hb dd (k H locs ls hw hS hl)
theorem Z_lsub (hC : Zok ad D ia C d cc nL own ret) {x y : Int64} (dd : decode cc pc = .ok (.lsub, 1)) (k : Z l ad D ia C X Y (pc + 1) V (.long (x - y) :: St) s) : Z l ad D ia C X Y pc V (.long y :: .long x :: St) s := by
  obtain ⟨p, e, R, s0, m, args, below, meth, c0⟩ := C
  obtain ⟨hx, hb, hml, hown, hts, hr, hlk, hR, hKK⟩ := hC
  intro H locs ls hw hS hl
  exact lv_lsub hx hb dd (k H locs ls hw hS hl)
theorem Z_ldiv (hC : Zok ad D ia C d cc nL own ret) {x y : Int64} (dd : decode cc pc = .ok (.ldiv, 1)) (hy : ¬ y = 0) (k : Z l ad D ia C X Y (pc + 1) V (.long (x / y) :: St) s) : Z l ad D ia C X Y pc V (.long y :: .long x :: St) s := by
  obtain ⟨p, e, R, s0, m, args, below, meth, c0⟩ := C
  obtain ⟨hx, hb, hml, hown, hts, hr, hlk, hR, hKK⟩ := hC
  intro H locs ls hw hS hl
  exact lv_ldiv hx hb dd hy (k H locs ls hw hS hl)
theorem Z_lrem (hC : Zok ad D ia C d cc nL own ret) {x y : Int64} (dd : decode cc pc = .ok (.lrem, 1)) (hy : ¬ y = 0) (k : Z l ad D ia C X Y (pc + 1) V (.long (x - x / y * y) :: St) s) : Z l ad D ia C X Y pc V (.long y :: .long x :: St) s := by
  obtain ⟨p, e, R, s0, m, args, below, meth, c0⟩ := C
  obtain ⟨hx, hb, hml, hown, hts, hr, hlk, hR, hKK⟩ := hC
  intro H locs ls hw hS hl
  exact lv_lrem hx hb dd hy (k H locs ls hw hS hl)
theorem Z_ineg (hC : Zok ad D ia C d cc nL own ret) {x : Int32} (dd : decode cc pc = .ok (.ineg, 1)) (k : Z l ad D ia C X Y (pc + 1) V (.int (-x) :: St) s) : Z l ad D ia C X Y pc V (.int x :: St) s := by
  obtain ⟨p, e, R, s0, m, args, below, meth, c0⟩ := C
  obtain ⟨hx, hb, hml, hown, hts, hr, hlk, hR, hKK⟩ := hC
  intro H locs ls hw hS hl
  exact lv_ineg hx hb dd (k H locs ls hw hS hl)
theorem Z_iushr (hC : Zok ad D ia C d cc nL own ret) {x y : Int32} (dd : decode cc pc = .ok (.iushr, 1)) (k : Z l ad D ia C X Y (pc + 1) V (.int (x.toUInt32 >>> (y.toUInt32 &&& Int32.toUInt32 31)).toInt32 :: St) s) : Z l ad D ia C X Y pc V (.int y :: .int x :: St) s := by
  obtain ⟨p, e, R, s0, m, args, below, meth, c0⟩ := C
  obtain ⟨hx, hb, hml, hown, hts, hr, hlk, hR, hKK⟩ := hC
  intro H locs ls hw hS hl
  exact lv_iushr hx hb dd rfl (k H locs ls hw hS hl)
theorem Z_i2l (hC : Zok ad D ia C d cc nL own ret) {x : Int32} (dd : decode cc pc = .ok (.i2l, 1)) (k : Z l ad D ia C X Y (pc + 1) V (.long x.toInt64 :: St) s) : Z l ad D ia C X Y pc V (.int x :: St) s := by
  obtain ⟨p, e, R, s0, m, args, below, meth, c0⟩ := C
  obtain ⟨hx, hb, hml, hown, hts, hr, hlk, hR, hKK⟩ := hC
  intro H locs ls hw hS hl
  exact lv_i2l hx hb dd rfl (k H locs ls hw hS hl)
theorem Z_i2b (hC : Zok ad D ia C d cc nL own ret) {x : Int32} (dd : decode cc pc = .ok (.i2b, 1)) (k : Z l ad D ia C X Y (pc + 1) V (.int x.toInt8.toInt32 :: St) s) : Z l ad D ia C X Y pc V (.int x :: St) s := by
  obtain ⟨p, e, R, s0, m, args, below, meth, c0⟩ := C
  obtain ⟨hx, hb, hml, hown, hts, hr, hlk, hR, hKK⟩ := hC
  intro H locs ls hw hS hl
  exact lv_i2b hx hb dd rfl (k H locs ls hw hS hl)
theorem Z_i2s (hC : Zok ad D ia C d cc nL own ret) {x : Int32} (dd : decode cc pc = .ok (.i2s, 1)) (k : Z l ad D ia C X Y (pc + 1) V (.int x.toInt16.toInt32 :: St) s) : Z l ad D ia C X Y pc V (.int x :: St) s := by
  obtain ⟨p, e, R, s0, m, args, below, meth, c0⟩ := C
  obtain ⟨hx, hb, hml, hown, hts, hr, hlk, hR, hKK⟩ := hC
  intro H locs ls hw hS hl
  exact lv_i2s hx hb dd rfl (k H locs ls hw hS hl)
theorem Z_lcmp (hC : Zok ad D ia C d cc nL own ret) {x y : Int64} (dd : decode cc pc = .ok (.lcmp, 1)) (k : Z l ad D ia C X Y (pc + 1) V (.int (lg_cmp x y) :: St) s) : Z l ad D ia C X Y pc V (.long y :: .long x :: St) s := by
  obtain ⟨p, e, R, s0, m, args, below, meth, c0⟩ := C
  obtain ⟨hx, hb, hml, hown, hts, hr, hlk, hR, hKK⟩ := hC
  intro H locs ls hw hS hl
  exact W.lcmp hx hb dd (k H locs ls hw hS hl)
theorem Z_if_eq (hC : Zok ad D ia C d cc nL own ret) {x : Int32} {off : Int} {tgt : Nat} (dd : decode cc pc = .ok (.ifCond .eq off, 3)) (ht : (pc : Int) + off = (tgt : Int)) (kt : x = 0 → Z l ad D ia C X Y tgt V St s) (kf : ¬ x = 0 → Z l ad D ia C X Y (pc + 3) V St s) : Z l ad D ia C X Y pc V (.int x :: St) s := by
  obtain ⟨p, e, R, s0, m, args, below, meth, c0⟩ := C
  obtain ⟨hx, hb, hml, hown, hts, hr, hlk, hR, hKK⟩ := hC
  intro H locs ls hw hS hl
  exact lv_if_eq hx hb dd ht (fun h => kt h H locs ls hw hS hl) (fun h => kf h H locs ls hw hS hl)
theorem Z_icmp_eq (hC : Zok ad D ia C d cc nL own ret) {x y : Int32} {off : Int} {tgt : Nat} (dd : decode cc pc = .ok (.if_icmp .eq off, 3)) (ht : (pc : Int) + off = (tgt : Int)) (kt : x = y → Z l ad D ia C X Y tgt V St s) (kf : ¬ x = y → Z l ad D ia C X Y (pc + 3) V St s) : Z l ad D ia C X Y pc V (.int y :: .int x :: St) s := by
  obtain ⟨p, e, R, s0, m, args, below, meth, c0⟩ := C
  obtain ⟨hx, hb, hml, hown, hts, hr, hlk, hR, hKK⟩ := hC
  intro H locs ls hw hS hl
  exact lv_icmp_eq hx hb dd ht (fun h => kt h H locs ls hw hS hl) (fun h => kf h H locs ls hw hS hl)
theorem Z_if_ne (hC : Zok ad D ia C d cc nL own ret) {x : Int32} {off : Int} {tgt : Nat} (dd : decode cc pc = .ok (.ifCond .ne off, 3)) (ht : (pc : Int) + off = (tgt : Int)) (kt : ¬ x = 0 → Z l ad D ia C X Y tgt V St s) (kf : x = 0 → Z l ad D ia C X Y (pc + 3) V St s) : Z l ad D ia C X Y pc V (.int x :: St) s := by
  obtain ⟨p, e, R, s0, m, args, below, meth, c0⟩ := C
  obtain ⟨hx, hb, hml, hown, hts, hr, hlk, hR, hKK⟩ := hC
  intro H locs ls hw hS hl
  exact lv_if_ne hx hb dd ht (fun h => kt h H locs ls hw hS hl) (fun h => kf h H locs ls hw hS hl)
theorem Z_icmp_ne (hC : Zok ad D ia C d cc nL own ret) {x y : Int32} {off : Int} {tgt : Nat} (dd : decode cc pc = .ok (.if_icmp .ne off, 3)) (ht : (pc : Int) + off = (tgt : Int)) (kt : ¬ x = y → Z l ad D ia C X Y tgt V St s) (kf : x = y → Z l ad D ia C X Y (pc + 3) V St s) : Z l ad D ia C X Y pc V (.int y :: .int x :: St) s := by
  obtain ⟨p, e, R, s0, m, args, below, meth, c0⟩ := C
  obtain ⟨hx, hb, hml, hown, hts, hr, hlk, hR, hKK⟩ := hC
  intro H locs ls hw hS hl
  exact lv_icmp_ne hx hb dd ht (fun h => kt h H locs ls hw hS hl) (fun h => kf h H locs ls hw hS hl)
theorem Z_if_lt (hC : Zok ad D ia C d cc nL own ret) {x : Int32} {off : Int} {tgt : Nat} (dd : decode cc pc = .ok (.ifCond .lt off, 3)) (ht : (pc : Int) + off = (tgt : Int)) (kt : x < 0 → Z l ad D ia C X Y tgt V St s) (kf : ¬ x < 0 → Z l ad D ia C X Y (pc + 3) V St s) : Z l ad D ia C X Y pc V (.int x :: St) s := by
  obtain ⟨p, e, R, s0, m, args, below, meth, c0⟩ := C
  obtain ⟨hx, hb, hml, hown, hts, hr, hlk, hR, hKK⟩ := hC
  intro H locs ls hw hS hl
  exact lv_if_lt hx hb dd ht (fun h => kt h H locs ls hw hS hl) (fun h => kf h H locs ls hw hS hl)
theorem Z_icmp_lt (hC : Zok ad D ia C d cc nL own ret) {x y : Int32} {off : Int} {tgt : Nat} (dd : decode cc pc = .ok (.if_icmp .lt off, 3)) (ht : (pc : Int) + off = (tgt : Int)) (kt : x < y → Z l ad D ia C X Y tgt V St s) (kf : ¬ x < y → Z l ad D ia C X Y (pc + 3) V St s) : Z l ad D ia C X Y pc V (.int y :: .int x :: St) s := by
  obtain ⟨p, e, R, s0, m, args, below, meth, c0⟩ := C
  obtain ⟨hx, hb, hml, hown, hts, hr, hlk, hR, hKK⟩ := hC
  intro H locs ls hw hS hl
  exact lv_icmp_lt hx hb dd ht (fun h => kt h H locs ls hw hS hl) (fun h => kf h H locs ls hw hS hl)
theorem Z_if_ge (hC : Zok ad D ia C d cc nL own ret) {x : Int32} {off : Int} {tgt : Nat} (dd : decode cc pc = .ok (.ifCond .ge off, 3)) (ht : (pc : Int) + off = (tgt : Int)) (kt : 0 ≤ x → Z l ad D ia C X Y tgt V St s) (kf : ¬ 0 ≤ x → Z l ad D ia C X Y (pc + 3) V St s) : Z l ad D ia C X Y pc V (.int x :: St) s := by
  obtain ⟨p, e, R, s0, m, args, below, meth, c0⟩ := C
  obtain ⟨hx, hb, hml, hown, hts, hr, hlk, hR, hKK⟩ := hC
  intro H locs ls hw hS hl
  exact lv_if_ge hx hb dd ht (fun h => kt h H locs ls hw hS hl) (fun h => kf h H locs ls hw hS hl)
theorem Z_icmp_ge (hC : Zok ad D ia C d cc nL own ret) {x y : Int32} {off : Int} {tgt : Nat} (dd : decode cc pc = .ok (.if_icmp .ge off, 3)) (ht : (pc : Int) + off = (tgt : Int)) (kt : y ≤ x → Z l ad D ia C X Y tgt V St s) (kf : ¬ y ≤ x → Z l ad D ia C X Y (pc + 3) V St s) : Z l ad D ia C X Y pc V (.int y :: .int x :: St) s := by
  obtain ⟨p, e, R, s0, m, args, below, meth, c0⟩ := C
  obtain ⟨hx, hb, hml, hown, hts, hr, hlk, hR, hKK⟩ := hC
  intro H locs ls hw hS hl
  exact lv_icmp_ge hx hb dd ht (fun h => kt h H locs ls hw hS hl) (fun h => kf h H locs ls hw hS hl)
theorem Z_if_gt (hC : Zok ad D ia C d cc nL own ret) {x : Int32} {off : Int} {tgt : Nat} (dd : decode cc pc = .ok (.ifCond .gt off, 3)) (ht : (pc : Int) + off = (tgt : Int)) (kt : 0 < x → Z l ad D ia C X Y tgt V St s) (kf : ¬ 0 < x → Z l ad D ia C X Y (pc + 3) V St s) : Z l ad D ia C X Y pc V (.int x :: St) s := by
  obtain ⟨p, e, R, s0, m, args, below, meth, c0⟩ := C
  obtain ⟨hx, hb, hml, hown, hts, hr, hlk, hR, hKK⟩ := hC
  intro H locs ls hw hS hl
  exact lv_if_gt hx hb dd ht (fun h => kt h H locs ls hw hS hl) (fun h => kf h H locs ls hw hS hl)
theorem Z_icmp_gt (hC : Zok ad D ia C d cc nL own ret) {x y : Int32} {off : Int} {tgt : Nat} (dd : decode cc pc = .ok (.if_icmp .gt off, 3)) (ht : (pc : Int) + off = (tgt : Int)) (kt : y < x → Z l ad D ia C X Y tgt V St s) (kf : ¬ y < x → Z l ad D ia C X Y (pc + 3) V St s) : Z l ad D ia C X Y pc V (.int y :: .int x :: St) s := by
  obtain ⟨p, e, R, s0, m, args, below, meth, c0⟩ := C
  obtain ⟨hx, hb, hml, hown, hts, hr, hlk, hR, hKK⟩ := hC
  intro H locs ls hw hS hl
  exact lv_icmp_gt hx hb dd ht (fun h => kt h H locs ls hw hS hl) (fun h => kf h H locs ls hw hS hl)
theorem Z_if_le (hC : Zok ad D ia C d cc nL own ret) {x : Int32} {off : Int} {tgt : Nat} (dd : decode cc pc = .ok (.ifCond .le off, 3)) (ht : (pc : Int) + off = (tgt : Int)) (kt : x ≤ 0 → Z l ad D ia C X Y tgt V St s) (kf : ¬ x ≤ 0 → Z l ad D ia C X Y (pc + 3) V St s) : Z l ad D ia C X Y pc V (.int x :: St) s := by
  obtain ⟨p, e, R, s0, m, args, below, meth, c0⟩ := C
  obtain ⟨hx, hb, hml, hown, hts, hr, hlk, hR, hKK⟩ := hC
  intro H locs ls hw hS hl
  exact lv_if_le hx hb dd ht (fun h => kt h H locs ls hw hS hl) (fun h => kf h H locs ls hw hS hl)
theorem Z_icmp_le (hC : Zok ad D ia C d cc nL own ret) {x y : Int32} {off : Int} {tgt : Nat} (dd : decode cc pc = .ok (.if_icmp .le off, 3)) (ht : (pc : Int) + off = (tgt : Int)) (kt : x ≤ y → Z l ad D ia C X Y tgt V St s) (kf : ¬ x ≤ y → Z l ad D ia C X Y (pc + 3) V St s) : Z l ad D ia C X Y pc V (.int y :: .int x :: St) s := by
  obtain ⟨p, e, R, s0, m, args, below, meth, c0⟩ := C
  obtain ⟨hx, hb, hml, hown, hts, hr, hlk, hR, hKK⟩ := hC
  intro H locs ls hw hS hl
  exact lv_icmp_le hx hb dd ht (fun h => kt h H locs ls hw hS hl) (fun h => kf h H locs ls hw hS hl)
theorem Z_goto (hC : Zok ad D ia C d cc nL own ret) {off : Int} {tgt : Nat} (dd : decode cc pc = .ok (.goto off, 3)) (ht : (pc : Int) + off = (tgt : Int)) (k : Z l ad D ia C X Y tgt V St s) : Z l ad D ia C X Y pc V (St) s := by
  obtain ⟨p, e, R, s0, m, args, below, meth, c0⟩ := C
  obtain ⟨hx, hb, hml, hown, hts, hr, hlk, hR, hKK⟩ := hC
  intro H locs ls hw hS hl
  exact lv_goto hx hb dd ht (k H locs ls hw hS hl)
theorem Z_tabIn (hC : Zok ad D ia C d cc nL own ret) {dflt lo hi : Int} {offs : Array Int} {len : Nat} {x : Int32} {off : Int} {tgt : Nat} (dd : decode cc pc = .ok (.tableswitch dflt lo hi offs, len)) (h1 : ¬ x.toInt < lo) (h2 : ¬ hi < x.toInt) (h3 : offs[(x.toInt - lo).toNat]? = some off) (ht : (pc : Int) + off = (tgt : Int)) (k : Z l ad D ia C X Y tgt V St s) : Z l ad D ia C X Y pc V (.int x :: St) s := by
  obtain ⟨p, e, R, s0, m, args, below, meth, c0⟩ := C
  obtain ⟨hx, hb, hml, hown, hts, hr, hlk, hR, hKK⟩ := hC
  intro H locs ls hw hS hl
  exact lv_tableIn hx hb dd h1 h2 h3 ht (k H locs ls hw hS hl)
theorem Z_tabOut (hC : Zok ad D ia C d cc nL own ret) {dflt lo hi : Int} {offs : Array Int} {len : Nat} {x : Int32} {tgt : Nat} (dd : decode cc pc = .ok (.tableswitch dflt lo hi offs, len)) (h1 : x.toInt < lo ∨ hi < x.toInt) (ht : (pc : Int) + dflt = (tgt : Int)) (k : Z l ad D ia C X Y tgt V St s) : Z l ad D ia C X Y pc V (.int x :: St) s := by
  obtain ⟨p, e, R, s0, m, args, below, meth, c0⟩ := C
  obtain ⟨hx, hb, hml, hown, hts, hr, hlk, hR, hKK⟩ := hC
  intro H locs ls hw hS hl
  exact lv_tableOut hx hb dd h1 ht (k H locs ls hw hS hl)
theorem Z_look (hC : Zok ad D ia C d cc nL own ret) {dflt : Int} {ps : Array (Int × Int)} {len : Nat} {x : Int32} {off : Int} {tgt : Nat} (dd : decode cc pc = .ok (.lookupswitch dflt ps, len)) (hp : (ps.toList.zip (ps.toList.drop 1)).all (fun (a, next) => a.1 < next.1) = true) (h3 : Op.lookupswitch.offset ps.toList dflt x.toInt = off) (ht : (pc : Int) + off = (tgt : Int)) (k : Z l ad D ia C X Y tgt V St s) : Z l ad D ia C X Y pc V (.int x :: St) s := by
  obtain ⟨p, e, R, s0, m, args, below, meth, c0⟩ := C
  obtain ⟨hx, hb, hml, hown, hts, hr, hlk, hR, hKK⟩ := hC
  intro H locs ls hw hS hl
  exact lv_lookup hx hb dd hp h3 ht (k H locs ls hw hS hl)
theorem Z_iret (hC : Zok ad D ia C d cc nL own (some .int)) {v : Int32} (dd : decode cc pc = .ok (.ireturn, 1)) (hX : X = some (.int v)) (hY : Y = s) : Z l ad D ia C X Y pc V [.int v] s := by
  obtain ⟨p, e, R, s0, m, args, below, meth, c0⟩ := C
  obtain ⟨hx, hb, hml, hown, hts, hr, hlk, hR, hKK⟩ := hC
  intro H locs ls hw hS hl
  subst hX
  subst hY
  exact W.iret hx hb hr (fun t ht hW => ⟨⟨rfl, by rw [ht]; exact hw⟩, hS.F ht⟩) hS.2.2 dd hlk
theorem Z_zret (hC : Zok ad D ia C d cc nL own (some .boolean)) {v : Int32} (dd : decode cc pc = .ok (.ireturn, 1)) (hn : narrow .boolean (.int v) = .int v) (hX : X = some (.int v)) (hY : Y = s) : Z l ad D ia C X Y pc V [.int v] s := by
  obtain ⟨p, e, R, s0, m, args, below, meth, c0⟩ := C
  obtain ⟨hx, hb, hml, hown, hts, hr, hlk, hR, hKK⟩ := hC
  intro H locs ls hw hS hl
  subst hX
  subst hY
  exact W.zret hx hb hr hn (fun t ht hW => ⟨⟨rfl, by rw [ht]; exact hw⟩, hS.F ht⟩) hS.2.2 dd hlk
theorem Z_lret (hC : Zok ad D ia C d cc nL own (some .long)) {v : Int64} (dd : decode cc pc = .ok (.lreturn, 1)) (hX : X = some (.long v)) (hY : Y = s) : Z l ad D ia C X Y pc V [.long v] s := by
  obtain ⟨p, e, R, s0, m, args, below, meth, c0⟩ := C
  obtain ⟨hx, hb, hml, hown, hts, hr, hlk, hR, hKK⟩ := hC
  intro H locs ls hw hS hl
  subst hX
  subst hY
  exact W.lret hx hb hr (fun t ht hW => ⟨⟨rfl, by rw [ht]; exact hw⟩, hS.F ht⟩) hS.2.2 dd hlk
theorem Z_vret (hC : Zok ad D ia C d cc nL own none) (dd : decode cc pc = .ok (.return_, 1)) (hX : X = none) (hY : Y = s) : Z l ad D ia C X Y pc V [] s := by
  obtain ⟨p, e, R, s0, m, args, below, meth, c0⟩ := C
  obtain ⟨hx, hb, hml, hown, hts, hr, hlk, hR, hKK⟩ := hC
  intro H locs ls hw hS hl
  subst hX
  subst hY
  exact W.vret hx hb hr (fun t ht hW => ⟨⟨rfl, by rw [ht]; exact hw⟩, hS.F ht⟩) hS.2.2 dd hlk
theorem Z_sub {V2 : List (Nat × Value)} (h : ∀ q ∈ V2, q ∈ V) (k : Z l ad D ia C X Y pc V2 St s) : Z l ad D ia C X Y pc V St s := by
  obtain ⟨p, e, R, s0, m, args, below, meth, c0⟩ := C
  intro H locs ls hw hS hl
  exact k H locs ls hw hS ⟨hl.1, hl.2.1, fun q hq => hl.2.2 q (h q hq)⟩
theorem Z_get (hC : Zok ad D ia C d cc nL own ret) {o c k idx : Nat} {v : Value} (ho : zcls o = c) (hc0 : 0 ∈ zsub c) (lk : zlk own idx c k) (hv : (zfs ad c o (s o))[k]? = some v) (dd : decode cc pc = .ok (.getfield idx, 3)) (kk : Z l ad D ia C X Y (pc + 3) V (v :: St) s) : Z l ad D ia C X Y pc V (.ref (ad o 0) :: St) s := by
  obtain ⟨p, e, R, s0, m, args, below, meth, c0⟩ := C
  obtain ⟨hx, hb, hml, hown, hts, hr, hlk, hR, hKK⟩ := hC
  intro H locs ls hw hS hl
  obtain ⟨f, hf, hP⟩ := id hw
  have hm : (o, 0) ∈ zCL := zmem (by rw [ho]; exact hc0)
  obtain ⟨q, hq, hin, hk, hlink⟩ := lk
  obtain ⟨q0, -, he⟩ := zget hf hm
  have he : (va_pl (zLL ad) f)[q0]? = some (ad o 0, .inr (c, zfs ad c o (s o))) := by rw [he]; simp only [zce, ho]
  exact va_get (C := q.1) (T := q.2.1) (N := q.2.2) hx hb hts hin hown hKK.2.1 hP q0 he hq k hk (hts _ hlink) (fun _ h9 => h9) hv dd (kk H locs ls hw hS hl)
theorem Z_put (hC : Zok ad D ia C d cc nL own ret) {o c k idx : Nat} {ty : FieldType} {v : Value} {v2 : OV} (ho : zcls o = c) (hc0 : 0 ∈ zsub c) (pk : zpk own idx c k ty) (hn : narrow ty v = v) (hfit : fits ty v = true) (hset : (zfs ad c o (s o)).set k v = zfs ad c o v2) (hrow : v2.2.2 = (s o).2.2) (hlen : k < (zfs ad c o (s o)).length) (dd : decode cc pc = .ok (.putfield idx, 3)) (kk : Z l ad D ia C X Y (pc + 3) V St (va_up s o v2)) : Z l ad D ia C X Y pc V (v :: .ref (ad o 0) :: St) s := by
  obtain ⟨p, e, R, s0, m, args, below, meth, c0⟩ := C
  obtain ⟨hx, hb, hml, hown, hts, hr, hlk, hR, hKK⟩ := hC
  intro H locs ls hw hS hl
  obtain ⟨f, hf, hP⟩ := id hw
  have hm : (o, 0) ∈ zCL := zmem (by rw [ho]; exact hc0)
  obtain ⟨q, ty0, hq, hin, hk, hlink, hty, hnm, hfin, hpd⟩ := pk
  obtain ⟨q0, hz, he⟩ := zget hf hm
  have he : (va_pl (zLL ad) f)[q0]? = some (ad o 0, .inr (c, zfs ad c o (s o))) := by rw [he]; simp only [zce, ho]
  refine va_put (C := q.1) (T := q.2.1) (N := q.2.2) hx hb hts hin ty0 hty hnm hown hKK.2.1 hP (zD hKK.1) hS q0 he hq k hk (hts _ hlink) (fun _ h9 => h9) hfin hpd hn hfit hlen dd (fun H1 locs1 hP1 hD1 hS1 => kk H1 locs1 ls ?_ hS1 hl)
  refine zset hKK.1 hf hm hz ?_ ?_
  · have e : zce ad ia (va_up s o v2) o 0 = .inr (c, (zfs ad c o (s o)).set k v) := by simp [zce, ho, va_up, hset]
    rw [e]
    exact hP1
  · intro r hr
    obtain ⟨a, b⟩ := r
    by_cases ea : a = o
    · subst ea
      cases b with
      | zero => exact absurd rfl hr
      | succ b => simp [zce, zrow, va_up, hrow]
    · cases b <;> simp [zce, va_up, ea]

theorem Z_iald (hC : Zok ad D ia C d cc nL own ret) {o k n : Nat} {i : Int32} (hI : zis o k 0 n) (hin : vp_in i n) (dd : decode cc pc = .ok (.iaload, 1)) (kk : Z l ad D ia C X Y (pc + 1) V (.int ((s o).2.2 k i.toNatClampNeg) :: St) s) : Z l ad D ia C X Y pc V (.int i :: .ref (ad o (k + 1)) :: St) s := by
  obtain ⟨p, e, R, s0, m, args, below, meth, c0⟩ := C
  obtain ⟨hx, hb, hml, hown, hts, hr, hlk, hR, hKK⟩ := hC
  intro H locs ls hw hS hl
  obtain ⟨f, hf, hP⟩ := id hw
  obtain ⟨h1, h2, h3⟩ := hI
  obtain ⟨q0, -, he⟩ := zget hf (zmem h1)
  have he : (va_pl (zLL ad) f)[q0]? = some (ad o (k + 1), .inl (ia 0, n, .inl ((s o).2.2 k))) := by rw [he]; simp [zce, zrow, h2, h3]
  exact va_iald hx hb hKK.2.1 hP q0 0 he rfl hin dd (kk H locs ls hw hS hl)
theorem Z_bald (hC : Zok ad D ia C d cc nL own ret) {o k n : Nat} {i : Int32} (hI : zis o k 1 n) (hin : vp_in i n) (dd : decode cc pc = .ok (.baload, 1)) (kk : Z l ad D ia C X Y (pc + 1) V (.int ((s o).2.2 k i.toNatClampNeg) :: St) s) : Z l ad D ia C X Y pc V (.int i :: .ref (ad o (k + 1)) :: St) s := by
  obtain ⟨p, e, R, s0, m, args, below, meth, c0⟩ := C
  obtain ⟨hx, hb, hml, hown, hts, hr, hlk, hR, hKK⟩ := hC
  intro H locs ls hw hS hl
  obtain ⟨f, hf, hP⟩ := id hw
  obtain ⟨h1, h2, h3⟩ := hI
  obtain ⟨q0, -, he⟩ := zget hf (zmem h1)
  have he : (va_pl (zLL ad) f)[q0]? = some (ad o (k + 1), .inl (ia 1, n, .inl ((s o).2.2 k))) := by rw [he]; simp [zce, zrow, h2, h3]
  exact va_bald hx hb hKK.2.1 hP q0 1 he rfl hin dd (kk H locs ls hw hS hl)
theorem Z_zald (hC : Zok ad D ia C d cc nL own ret) {o k n : Nat} {i : Int32} (hI : zis o k 2 n) (hin : vp_in i n) (dd : decode cc pc = .ok (.baload, 1)) (kk : Z l ad D ia C X Y (pc + 1) V (.int ((s o).2.2 k i.toNatClampNeg) :: St) s) : Z l ad D ia C X Y pc V (.int i :: .ref (ad o (k + 1)) :: St) s := by
  obtain ⟨p, e, R, s0, m, args, below, meth, c0⟩ := C
  obtain ⟨hx, hb, hml, hown, hts, hr, hlk, hR, hKK⟩ := hC
  intro H locs ls hw hS hl
  obtain ⟨f, hf, hP⟩ := id hw
  obtain ⟨h1, h2, h3⟩ := hI
  obtain ⟨q0, -, he⟩ := zget hf (zmem h1)
  have he : (va_pl (zLL ad) f)[q0]? = some (ad o (k + 1), .inl (ia 2, n, .inl ((s o).2.2 k))) := by rw [he]; simp [zce, zrow, h2, h3]
  exact va_zald hx hb hKK.2.1 hP q0 2 he rfl hin dd (kk H locs ls hw hS hl)
theorem zfs_A {c o k : Nat} {v : OV} {g : Nat → Int32} : zfs ad c o (setA v k g) = zfs ad c o v := by
  unfold zfs setA
  rfl
theorem zsetA_ne {o k : Nat} {g : Nat → Int32} (q : Nat × Nat) (hq : q ≠ (o, k + 1)) : zce ad ia (va_up s o (setA (s o) k g)) q.1 q.2 = zce ad ia s q.1 q.2 := by
  obtain ⟨a, b⟩ := q
  by_cases ea : a = o
  · subst ea
    cases b with
    | zero =>
      show Sum.inr (zcls a, zfs ad (zcls a) a (va_up s a (setA (s a) k g) a)) = Sum.inr (zcls a, zfs ad (zcls a) a (s a))
      have e : va_up s a (setA (s a) k g) a = setA (s a) k g := by simp [va_up]
      rw [e, zfs_A]
    | succ b =>
      have hb : b ≠ k := fun h => hq (by rw [h])
      simp [zce, zrow, va_up, setA, hb]
  · cases b <;> simp [zce, va_up, ea]
theorem Z_iast (hC : Zok ad D ia C d cc nL own ret) {o k n : Nat} {i x : Int32} (hI : zis o k 0 n) (hin : vp_in i n) (dd : decode cc pc = .ok (.iastore, 1)) (kk : Z l ad D ia C X Y (pc + 1) V St (va_up s o (setA (s o) k (upd ((s o).2.2 k) i.toNatClampNeg x)))) : Z l ad D ia C X Y pc V (.int x :: .int i :: .ref (ad o (k + 1)) :: St) s := by
  obtain ⟨p, e, R, s0, m, args, below, meth, c0⟩ := C
  obtain ⟨hx, hb, hml, hown, hts, hr, hlk, hR, hKK⟩ := hC
  intro H locs ls hw hS hl
  obtain ⟨f, hf, hP⟩ := id hw
  obtain ⟨h1, h2, h3⟩ := hI
  obtain ⟨q0, hz, he⟩ := zget hf (zmem h1)
  have he : (va_pl (zLL ad) f)[q0]? = some (ad o (k + 1), .inl (ia 0, n, .inl ((s o).2.2 k))) := by rw [he]; simp [zce, zrow, h2, h3]
  refine va_iast hx hb hKK.2.1 hP (zD hKK.1) hS q0 0 he rfl hin dd (fun H1 locs1 hP1 hD1 hS1 => kk H1 locs1 ls ?_ hS1 hl)
  refine zset hKK.1 hf (zmem h1) hz ?_ ?_
  · have e : zce ad ia (va_up s o (setA (s o) k (upd ((s o).2.2 k) i.toNatClampNeg x))) o (k + 1) = .inl (ia 0, n, .inl (upd ((s o).2.2 k) i.toNatClampNeg x)) := by simp [zce, zrow, va_up, setA, h2, h3]
    rw [e]
    exact hP1
  · exact zsetA_ne
theorem Z_bast (hC : Zok ad D ia C d cc nL own ret) {o k n : Nat} {i x : Int32} (hI : zis o k 1 n) (hin : vp_in i n) (dd : decode cc pc = .ok (.bastore, 1)) (kk : Z l ad D ia C X Y (pc + 1) V St (va_up s o (setA (s o) k (upd ((s o).2.2 k) i.toNatClampNeg (vp_nar .byte x))))) : Z l ad D ia C X Y pc V (.int x :: .int i :: .ref (ad o (k + 1)) :: St) s := by
  obtain ⟨p, e, R, s0, m, args, below, meth, c0⟩ := C
  obtain ⟨hx, hb, hml, hown, hts, hr, hlk, hR, hKK⟩ := hC
  intro H locs ls hw hS hl
  obtain ⟨f, hf, hP⟩ := id hw
  obtain ⟨h1, h2, h3⟩ := hI
  obtain ⟨q0, hz, he⟩ := zget hf (zmem h1)
  have he : (va_pl (zLL ad) f)[q0]? = some (ad o (k + 1), .inl (ia 1, n, .inl ((s o).2.2 k))) := by rw [he]; simp [zce, zrow, h2, h3]
  refine va_bast hx hb hKK.2.1 hP (zD hKK.1) hS q0 1 he rfl hin dd (fun H1 locs1 hP1 hD1 hS1 => kk H1 locs1 ls ?_ hS1 hl)
  refine zset hKK.1 hf (zmem h1) hz ?_ ?_
  · have e : zce ad ia (va_up s o (setA (s o) k (upd ((s o).2.2 k) i.toNatClampNeg (vp_nar .byte x)))) o (k + 1) = .inl (ia 1, n, .inl (upd ((s o).2.2 k) i.toNatClampNeg (vp_nar .byte x))) := by simp [zce, zrow, va_up, setA, h2, h3]
    rw [e]
    exact hP1
  · exact zsetA_ne
theorem Z_zast (hC : Zok ad D ia C d cc nL own ret) {o k n : Nat} {i x : Int32} (hI : zis o k 2 n) (hin : vp_in i n) (dd : decode cc pc = .ok (.bastore, 1)) (kk : Z l ad D ia C X Y (pc + 1) V St (va_up s o (setA (s o) k (upd ((s o).2.2 k) i.toNatClampNeg (vp_nar .boolean x))))) : Z l ad D ia C X Y pc V (.int x :: .int i :: .ref (ad o (k + 1)) :: St) s := by
  obtain ⟨p, e, R, s0, m, args, below, meth, c0⟩ := C
  obtain ⟨hx, hb, hml, hown, hts, hr, hlk, hR, hKK⟩ := hC
  intro H locs ls hw hS hl
  obtain ⟨f, hf, hP⟩ := id hw
  obtain ⟨h1, h2, h3⟩ := hI
  obtain ⟨q0, hz, he⟩ := zget hf (zmem h1)
  have he : (va_pl (zLL ad) f)[q0]? = some (ad o (k + 1), .inl (ia 2, n, .inl ((s o).2.2 k))) := by rw [he]; simp [zce, zrow, h2, h3]
  refine va_zast hx hb hKK.2.1 hP (zD hKK.1) hS q0 2 he rfl hin dd (fun H1 locs1 hP1 hD1 hS1 => kk H1 locs1 ls ?_ hS1 hl)
  refine zset hKK.1 hf (zmem h1) hz ?_ ?_
  · have e : zce ad ia (va_up s o (setA (s o) k (upd ((s o).2.2 k) i.toNatClampNeg (vp_nar .boolean x)))) o (k + 1) = .inl (ia 2, n, .inl (upd ((s o).2.2 k) i.toNatClampNeg (vp_nar .boolean x))) := by simp [zce, zrow, va_up, setA, h2, h3]
    rw [e]
    exact hP1
  · exact zsetA_ne
theorem Z_aaldM (hC : Zok ad D ia C d cc nL own ret) {i : Int32} (hin : vp_in i 2) (dd : decode cc pc = .ok (.aaload, 1)) (kk : Z l ad D ia C X Y (pc + 1) V (.ref (ad (10 + i.toNatClampNeg) 0) :: St) s) : Z l ad D ia C X Y pc V (.int i :: .ref (ad 0 6) :: St) s := by
  obtain ⟨p, e, R, s0, m, args, below, meth, c0⟩ := C
  obtain ⟨hx, hb, hml, hown, hts, hr, hlk, hR, hKK⟩ := hC
  intro H locs ls hw hS hl
  obtain ⟨f, hf, hP⟩ := id hw
  obtain ⟨q0, -, he⟩ := zget hf (o := 0) (k := 6) (zmem (by decide))
  have he : (va_pl (zLL ad) f)[q0]? = some (ad 0 6, .inl (ia 3, 2, .inr (.inr (.inr (.inr (zrf ad 0 5)))))) := he
  exact va_aldq hx hb hKK.2.1 hP q0 3 he rfl hin dd (kk H locs ls hw hS hl)
theorem Z_aaldS (hC : Zok ad D ia C d cc nL own ret) {i : Int32} (hin : vp_in i 4) (dd : decode cc pc = .ok (.aaload, 1)) (kk : Z l ad D ia C X Y (pc + 1) V (.ref (ad (12 + i.toNatClampNeg) 0) :: St) s) : Z l ad D ia C X Y pc V (.int i :: .ref (ad 0 7) :: St) s := by
  obtain ⟨p, e, R, s0, m, args, below, meth, c0⟩ := C
  obtain ⟨hx, hb, hml, hown, hts, hr, hlk, hR, hKK⟩ := hC
  intro H locs ls hw hS hl
  obtain ⟨f, hf, hP⟩ := id hw
  obtain ⟨q0, -, he⟩ := zget hf (o := 0) (k := 7) (zmem (by decide))
  have he : (va_pl (zLL ad) f)[q0]? = some (ad 0 7, .inl (ia 4, 4, .inr (.inr (.inr (.inr (zrf ad 0 6)))))) := he
  exact va_aldq hx hb hKK.2.1 hP q0 4 he rfl hin dd (kk H locs ls hw hS hl)
theorem zblind {av : List Value} : FrameBlind (va_Pc av (zP ad D ia s)) := fun a U g mk q => ⟨q.1, ⟨q.2.1.1, va_K.moved (u := U) (U := U.calling g mk a) (Vm.Alike.refl U.vm) q.2.1.2.1, fun w hw => va_Nw.same (u := U) (U := U.calling g mk a) (by revert w; decide +kernel) rfl (q.2.1.2.2.1 w hw), ⟨fun i hi => vk_R.same (u := U) (U := U.calling g mk a) rfl (q.2.1.2.2.2.1 i hi), vk_S.moved (u := U) (U := U.calling g mk a) (Vm.Alike.refl U.vm) q.2.1.2.2.2.2.1, va_Z.moved (u := U) (U := U.calling g mk a) (Vm.Alike.refl U.vm) q.2.1.2.2.2.2.2.1, va_Zq.moved (u := U) (U := U.calling g mk a) (Vm.Alike.refl U.vm) q.2.1.2.2.2.2.2.2⟩⟩, q.2.2⟩
theorem zTx_warm {U U2 : State} (hW : U.WarmedH U2.vm) (hq : ∀ a : Nat, a < U.heap.size → ¬ zAd ad a → U2.heap[a]? = U.heap[a]?) (h : zTx ad U) : zTx ad U2 := ⟨fun i hi => vk_R.warm hW (h.1 i hi), (vk_S.moved hW.alike h.2.1).kept hq, (va_Z.moved hW.alike h.2.2.1).kept hq, (va_Zq.moved hW.alike h.2.2.2).kept hq⟩
theorem zK_warm {U U2 : State} (hW : U.WarmedH U2.vm) (hq : ∀ a : Nat, a < U.heap.size → ¬ zAd ad a → U2.heap[a]? = U.heap[a]?) (h : zK ad D ia U) : zK ad D ia U2 := ⟨h.1, va_K.moved hW.alike h.2.1, fun w hw => by
  have h2 := h.2.2.1 w hw
  simp only [zNW, List.mem_cons, List.not_mem_nil, or_false] at hw
  rcases hw with rfl | rfl | rfl <;> exact va_Nw.warmM hW h2, zTx_warm hW hq h.2.2.2⟩

theorem Z_callV (hC : Zok ad D ia C (d + 1) cc nL own ret) {M : ZM} {idx n o : Nat} {As rest : List Value} {X1 : Option Value} {Y1 : ZS} (hE : Ev l ad D ia d M (.ref (ad o 0) :: As) s X1 Y1) (lk : zcV own idx M n) (hoc : ∃ c, zcls o = c ∧ 0 ∈ zsub c ∧ ∃ q : vw_C, vwCl[c]? = some q ∧ q.1 = M.1.cls) (hn : As.length = n) (hst : St = As.reverse ++ .ref (ad o 0) :: rest) (hW : (rest.map fun v => v.category).sum ≤ 8) (dd : decode cc pc = .ok (.invokevirtual idx, 3)) (k : Z l ad D ia C X Y (pc + 3) V (X1.toList ++ rest) Y1) : Z l ad D ia C X Y pc V St s := by
  obtain ⟨p, e, R, s0, m, args, below, meth, c0⟩ := C
  obtain ⟨hx, hb, hml, hown, hts, hr, hlk, hR, hKK⟩ := hC
  intro H locs ls hw hS hl
  obtain ⟨hwd, hd, hm⟩ := lk
  subst hR
  have hR : (zrm d).frames + 1 ≤ (zrm (d + 1)).frames ∧ 8 + (M.2.2.1 + 11) + (zrm d).locals ≤ (zrm (d + 1)).locals := ⟨Nat.le_refl _, by simp only [zrm]; omega⟩
  have cw := cwV (C := M.1.cls) (ws := .code M.1 M.2.1 M.2.2.1 M.2.2.2 :: WL) (rm := zrm d) (mc := 0) (ms := 0) (R := zrm (d + 1)) n hts (fun w h => by
    simp only [wsV, List.mem_append, List.mem_cons, List.not_mem_nil, or_false] at h
    rcases h with (rfl | rfl | rfl | rfl) | h
    · exact zWL_good _ hwd.1
    · exact zWL_good _ hwd.2.1
    · exact zWL_good _ hwd.2.2.1
    · exact zWL_good _ hwd.2.2.2.1
    · exact zgood hwd.2.2.2.2 (fun _ h => h) w (List.mem_cons.mpr h)) rfl rfl rfl ⟨rfl, hd⟩ hR
  have hrecv : ∃ cellB : Cell, H[ad o 0]? = some cellB ∧ cellB.vm.isStatics = false ∧ s0.vm.findClass M.1.cls = some cellB.cls := by
    obtain ⟨c, hoc, hc0, q, hq, hq1⟩ := hoc
    obtain ⟨f, hf, hP⟩ := id hw
    obtain ⟨q0, -, he⟩ := zget hf (o := o) (k := 0) (zmem (by rw [hoc]; exact hc0))
    have he : (va_pl (zLL ad) f)[q0]? = some (ad o 0, .inr (c, zfs ad c o (s o))) := by rw [he]; simp only [zce, hoc]
    rw [← hq1]
    exact va_recv hKK.2.1 hP hq he
  have hrun := va_runV (Ts := WL) (nL := c0.maxLocals) (g := F0 m pc ls St) (rest := rest) (As := As) (cells := 0) (slots := 0) (locs := locs) (e := e) (below := below) (meth := meth) ⟨hx, hb, rfl, hown, hts⟩ hE cw ⟨zblind, hrecv, fun U hU hWm => ⟨rfl, zK_warm hWm (by rw [hU]; exact hS.2.1) hKK, by rw [hU]; exact hw⟩⟩ rfl hn hl.1 hst (by simpa using hW) dd ⟨Nat.le_refl _, Nat.le_refl _⟩
  intro T hT Xs
  obtain ⟨v, st0, t, T2, L, h0, X2, hL, e1, e2, ⟨⟨hv, hwt⟩, hz, hk⟩, st⟩ := hrun T hT Xs
  cases hv
  rw [h0] at hz hk
  obtain ⟨t2, a1, b1⟩ := k T2.heap (locs ++ L) ls (by rw [e1]; exact hwt)
    ⟨Nat.le_trans hS.1 (by rw [e1]; exact hz), fun q h1 h2 => by rw [e1, hk q (Nat.lt_of_lt_of_le h1 hS.1) h2]; exact hS.2.1 q h1 h2, fun q hq => by
      rcases List.mem_append.mp hq with h | h
      · exact hS.2.2 q h
      · exact hL q h⟩ hl T2 rfl X2
  exact ⟨t2, st t2 a1, b1⟩
theorem Z_callS (hC : Zok ad D ia C (d + 1) cc nL own ret) {M : ZM} {idx n : Nat} {As rest : List Value} {X1 : Option Value} {Y1 : ZS} (hE : Ev l ad D ia d M (As) s X1 Y1) (lk : zcS own idx M n) (hn : As.length = n) (hst : St = As.reverse ++ rest) (hW : (rest.map fun v => v.category).sum ≤ 8) (dd : decode cc pc = .ok (.invokestatic idx, 3)) (k : Z l ad D ia C X Y (pc + 3) V (X1.toList ++ rest) Y1) : Z l ad D ia C X Y pc V St s := by
  obtain ⟨p, e, R, s0, m, args, below, meth, c0⟩ := C
  obtain ⟨hx, hb, hml, hown, hts, hr, hlk, hR, hKK⟩ := hC
  intro H locs ls hw hS hl
  obtain ⟨hwd, hd, hm⟩ := lk
  subst hR
  have hR : (zrm d).frames + 1 ≤ (zrm (d + 1)).frames ∧ 8 + (M.2.2.1 + 11) + (zrm d).locals ≤ (zrm (d + 1)).locals := ⟨Nat.le_refl _, by simp only [zrm]; omega⟩
  have cw : CallB (zrm (d + 1)) s0 args own idx M.1 M.2.1 M.2.2.1 M.2.2.2 (.code M.1 M.2.1 M.2.2.1 M.2.2.2 :: WL) (zrm d) 0 0 n ∧ (Cond.static M.1).before args s0 = true := ⟨callB_of n hts (zgood hwd.2.2.2 (fun _ h => h)) rfl rfl rfl (hts _ hwd.2.2.1) (hts _ hwd.1) hd hR, hts _ hwd.2.1⟩
  have hrun := va_runS (Ts := WL) (nL := c0.maxLocals) (g := F0 m pc ls St) (rest := rest) (As := As) (cells := 0) (slots := 0) (locs := locs) (e := e) (below := below) (meth := meth) ⟨hx, hb, rfl, hown, hts⟩ hE cw ⟨zblind, fun U hU hWm => ⟨rfl, zK_warm hWm (by rw [hU]; exact hS.2.1) hKK, by rw [hU]; exact hw⟩⟩ rfl hn hl.1 hst (by simpa using hW) dd ⟨Nat.le_refl _, Nat.le_refl _⟩
  intro T hT Xs
  obtain ⟨v, st0, t, T2, L, h0, X2, hL, e1, e2, ⟨⟨hv, hwt⟩, hz, hk⟩, st⟩ := hrun T hT Xs
  cases hv
  rw [h0] at hz hk
  obtain ⟨t2, a1, b1⟩ := k T2.heap (locs ++ L) ls (by rw [e1]; exact hwt)
    ⟨Nat.le_trans hS.1 (by rw [e1]; exact hz), fun q h1 h2 => by rw [e1, hk q (Nat.lt_of_lt_of_le h1 hS.1) h2]; exact hS.2.1 q h1 h2, fun q hq => by
      rcases List.mem_append.mp hq with h | h
      · exact hS.2.2 q h
      · exact hL q h⟩ hl T2 rfl X2
  exact ⟨t2, st t2 a1, b1⟩
theorem Z_callN (hC : Zok ad D ia C (d + 1) cc nL own ret) {M : ZM} {idx n : Nat} {As rest : List Value} {X1 : Option Value} {Y1 : ZS} (hE : Ev l ad D ia d M (As) s X1 Y1) (lk : zcN own idx M n) (hn : As.length = n) (hst : St = As.reverse ++ rest) (hW : (rest.map fun v => v.category).sum ≤ 8) (dd : decode cc pc = .ok (.invokestatic idx, 3)) (k : Z l ad D ia C X Y (pc + 3) V (X1.toList ++ rest) Y1) : Z l ad D ia C X Y pc V St s := by
  obtain ⟨p, e, R, s0, m, args, below, meth, c0⟩ := C
  obtain ⟨hx, hb, hml, hown, hts, hr, hlk, hR, hKK⟩ := hC
  intro H locs ls hw hS hl
  obtain ⟨hwd, hd, hm⟩ := lk
  subst hR
  have hR : (zrm d).frames + 1 ≤ (zrm (d + 1)).frames ∧ 8 + (M.2.2.1 + 11) + (zrm d).locals ≤ (zrm (d + 1)).locals := ⟨Nat.le_refl _, by simp only [zrm]; omega⟩
  have cw := va_cnB (own := own) (index := idx) (args := args) (s := s0) (R := zrm (d + 1)) (rm := zrm d) (mc := 0) (ms := 0) (ws := .code M.1 M.2.1 M.2.2.1 M.2.2.2 :: WL) n hts (zgood hwd.2.2.2 (fun _ h => h)) rfl rfl rfl (hKK.2.2.1 _ hwd.1) (hts _ hwd.2.2.1) hd hR
  have cw := And.intro cw (And.intro (hts _ hwd.2.1) True.intro)
  have hrun := va_runSN (Ts := WL) (nL := c0.maxLocals) (g := F0 m pc ls St) (rest := rest) (As := As) (cells := 0) (slots := 0) (locs := locs) (e := e) (below := below) (meth := meth) ⟨hx, hb, rfl, hown, hts⟩ hE cw ⟨zblind, fun U hU hWm => ⟨rfl, zK_warm hWm (by rw [hU]; exact hS.2.1) hKK, by rw [hU]; exact hw⟩⟩ rfl hn hl.1 hst (by simpa using hW) dd ⟨Nat.le_refl _, Nat.le_refl _⟩
  intro T hT Xs
  obtain ⟨v, st0, t, T2, L, h0, X2, hL, e1, e2, ⟨⟨hv, hwt⟩, hz, hk⟩, st⟩ := hrun T hT Xs
  cases hv
  rw [h0] at hz hk
  obtain ⟨t2, a1, b1⟩ := k T2.heap (locs ++ L) ls (by rw [e1]; exact hwt)
    ⟨Nat.le_trans hS.1 (by rw [e1]; exact hz), fun q h1 h2 => by rw [e1, hk q (Nat.lt_of_lt_of_le h1 hS.1) h2]; exact hS.2.1 q h1 h2, fun q hq => by
      rcases List.mem_append.mp hq with h | h
      · exact hS.2.2 q h
      · exact hL q h⟩ hl T2 rfl X2
  exact ⟨t2, st t2 a1, b1⟩
theorem Ev.start {M : ZM} {av : List Value} (hy : plainName M.1.cls = true) (hlen : (lg_sl av).length ≤ M.2.2.1) (body : ∀ C : ZC, Zok ad D ia C d M.2.1 M.2.2.1 M.1.cls M.2.2.2 → Z l ad D ia C X Y 0 (lv_args 0 av) [] s) : Ev l ad D ia d M av s X Y := by
  refine Met.ofW (cc := M.2.1) (maxL := M.2.2.1) (ret := M.2.2.2) hy rfl ?_
  intro p e s0 m args below meth c s1 B hml hv
  obtain ⟨rfl, hKK, hw⟩ := hv
  have hts := atoms_spec (ws := .code M.1 M.2.1 M.2.2.1 M.2.2.2 :: WL) B.pre
  have hZ := body (p, e, zrm d, s0, m, av.toArray, below, meth, c) ⟨B.exec, B.bytes, hml, findClass_of_methodNamed B.named, fun w h => hts w (List.mem_cons_of_mem _ h), B.returns, B.notSynchronized, rfl, hKK⟩
  have hl := lv_entry av (n := M.2.2.1) hlen
  rw [lg_entry_eq]
  exact hZ s0.heap [] _ hw va_S.rf (by rw [hml]; exact hl)
end ZL
