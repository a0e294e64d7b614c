/-! THE LAW'S ENTRY: what is known there, as the layers want it -/
def ytm (i : Nat) : Term := .string "UpperSteps$Parser" (zsi.getD i 0)
def yTx (a30 a31 : Nat → Nat) (A : Nat → Prop) (U : State) : Prop := (∀ i, i < 6 → vk_R "UpperSteps$Parser" (zsi.getD i 0) (zst.getD i "") (a30 i) U) ∧ vk_S 6 zsl zsb a30 a31 A U U.heap ∧ va_Z "java/lang/String" "COMPACT_STRINGS" "Z" (.int 1) A U U.heap ∧ va_Zq "jdk/internal/util/Preconditions" "SIOOBE_FORMATTER" "Ljava/util/function/BiFunction;" A U U.heap
theorem yt_ex : ∀ i, i < 6 → Cond.exactly (ytm i) "java/lang/String" ∈ flatC (Jvm.Cond.and given_1 narrow_1) := by decide +kernel
theorem yt_co : ∀ i, i < 6 → Cond.eq (.field (ytm i) "java/lang/String" "coder" "B") (.int 0) ∈ flatC (Jvm.Cond.and given_1 narrow_1) := by decide +kernel
theorem yt_ar : ∀ i, i < 6 → Cond.arrayOf (.field (ytm i) "java/lang/String" "value" "[B") .byte ∈ flatC (Jvm.Cond.and given_1 narrow_1) := by decide +kernel
theorem yt_le : ∀ i, i < 6 → Cond.eq (.length (.field (ytm i) "java/lang/String" "value" "[B")) (.int (Int32.ofNat (zsl.getD i 0))) ∈ flatC (Jvm.Cond.and given_1 narrow_1) := by decide +kernel
theorem yt_el : ∀ i, i < 6 → ∀ j, j < zsl.getD i 0 → Cond.eq (.elem (.field (ytm i) "java/lang/String" "value" "[B") (.int (Int32.ofNat j))) (.int ((zsb.getD i []).getD j 0)) ∈ flatC (Jvm.Cond.and given_1 narrow_1) := by decide +kernel
theorem yt_ne : ∀ i, i < 6 → ∀ j, j < 6 → i ≠ j → Cond.not (Cond.eq (ytm i) (ytm j)) ∈ flatC (Jvm.Cond.and given_1 narrow_1) ∨ Cond.not (Cond.eq (ytm j) (ytm i)) ∈ flatC (Jvm.Cond.and given_1 narrow_1) := by decide +kernel
theorem yt_n : ∀ i, i < 6 → zsl.getD i 0 < 2 ^ 31 := by decide
theorem yt_sr : ∀ i, i < 6 → Cond.stringRef "UpperSteps$Parser" (zsi.getD i 0) (zst.getD i "") ∈ lw_tbl := by decide +kernel
theorem yt_z1 : Cond.laysStatic "java/lang/String" "COMPACT_STRINGS" "Z" ∈ lw_tbl ∧ Cond.initialized "java/lang/String" ∈ lw_tbl ∧ Cond.eq (.static "java/lang/String" "COMPACT_STRINGS" "Z") (.int 1) ∈ flatC (Jvm.Cond.and given_1 narrow_1) := by decide +kernel
theorem yt_z2 : Cond.laysStatic "jdk/internal/util/Preconditions" "SIOOBE_FORMATTER" "Ljava/util/function/BiFunction;" ∈ lw_tbl ∧ Cond.initialized "jdk/internal/util/Preconditions" ∈ lw_tbl ∧ Cond.isRef (.static "jdk/internal/util/Preconditions" "SIOOBE_FORMATTER" "Ljava/util/function/BiFunction;") ∈ flatC (Jvm.Cond.and given_1 narrow_1) := by decide +kernel
theorem yNW_in : ∀ w ∈ yNW, w ∈ lw_tbl ∧ w.onTables = true := by decide +kernel
theorem zNW_in : ∀ w ∈ zNW, w ∈ lw_tbl ∧ w.onTables = true := by decide +kernel
theorem yAO_in : Cond.arrayOver (.object "UpperSteps$Image") ∈ lw_tbl ∧ Cond.arrayOver (.object "UpperSteps$Sheet") ∈ lw_tbl ∧ Cond.arrayOver (.array .int) ∈ lw_tbl ∧ Cond.arrayClass .int ∈ lw_tbl ∧ Cond.arrayClass .byte ∈ lw_tbl ∧ Cond.arrayClass .boolean ∈ lw_tbl := by decide +kernel
theorem yin_in : Cond.instantiable RX0 14 ∈ lw_tbl ∧ Cond.instantiable RX1 3 ∈ lw_tbl ∧ Cond.instantiable RX2 2 ∈ lw_tbl ∧ Cond.instantiable RX3 6 ∈ lw_tbl ∧ Cond.instantiable RX4 4 ∈ lw_tbl ∧ Cond.instantiable RX5 3 ∈ lw_tbl ∧ Cond.instantiable RX6 4 ∈ lw_tbl ∧ Cond.instantiable RX7 5 ∈ lw_tbl ∧ Cond.instantiable RX8 12 ∈ lw_tbl ∧ Cond.instantiable RX9 34 ∈ lw_tbl := by decide +kernel
theorem ybegin {args : Array Value} {s : State} (hts : ∀ w ∈ lw_tbl, w.before args s = true) (hgv : (Jvm.Cond.and given_1 narrow_1).before args s = true) : ∃ (D : va_G) (ia : Nat → ClassId) (a30 a31 : Nat → Nat), yK D ia s ∧ (∀ w ∈ zNW, va_Nw w s) ∧ yTx a30 a31 (fun q => s.heap.size ≤ q) s := by
  have hs := flat_of_before _ hgv
  have hW : ∀ w ∈ WL, w.before args s = true := fun w h => hts w (List.mem_filter.mp h).1
  have hA : ∀ a : Nat, a < s.heap.size → ¬ (fun q => s.heap.size ≤ q) a := fun a h => Nat.not_le.mpr h
  -- the classes
  obtain ⟨c0, j0, k0⟩ := u_known (C := RX0) (T := TX0) (N := 14) (n := 14) hW inWX0 (hts _ yin_in.1)
  obtain ⟨c1, j1, k1⟩ := u_known (C := RX1) (T := TX1) (N := 3) (n := 3) hW inWX1 (hts _ yin_in.2.1)
  obtain ⟨c2, j2, k2⟩ := u_known (C := RX2) (T := TX2) (N := 2) (n := 2) hW inWX2 (hts _ yin_in.2.2.1)
  obtain ⟨c3, j3, k3⟩ := u_known (C := RX3) (T := TX3) (N := 6) (n := 6) hW inWX3 (hts _ yin_in.2.2.2.1)
  obtain ⟨c4, j4, k4⟩ := u_known (C := RX4) (T := TX4) (N := 4) (n := 4) hW inWX4 (hts _ yin_in.2.2.2.2.1)
  obtain ⟨c5, j5, k5⟩ := u_known (C := RX5) (T := TX5) (N := 3) (n := 3) hW inWX5 (hts _ yin_in.2.2.2.2.2.1)
  obtain ⟨c6, j6, k6⟩ := u_known (C := RX6) (T := TX6) (N := 4) (n := 4) hW inWX6 (hts _ yin_in.2.2.2.2.2.2.1)
  obtain ⟨c7, j7, k7⟩ := u_known (C := RX7) (T := TX7) (N := 5) (n := 5) hW inWX7 (hts _ yin_in.2.2.2.2.2.2.2.1)
  obtain ⟨c8, j8, k8⟩ := u_known (C := RX8) (T := TX8) (N := 12) (n := 12) hW inWX8 (hts _ yin_in.2.2.2.2.2.2.2.2.1)
  obtain ⟨c9, j9, k9⟩ := u_known (C := RX9) (T := TX9) (N := 34) (n := 34) hW inWX9 (hts _ yin_in.2.2.2.2.2.2.2.2.2)
  obtain ⟨D, hD⟩ : ∃ D : va_G, ∀ (c : Nat) (q : vw_C), vwCl[c]? = some q → u_Kn s q.1 q.2.1 q.2.2 (D.1 c) (D.2 c) := by
    refine ⟨(fun k => match k with | 0 => c0 | 1 => c1 | 2 => c2 | 3 => c3 | 4 => c4 | 5 => c5 | 6 => c6 | 7 => c7 | 8 => c8 | _ => c9, fun k => match k with | 0 => j0 | 1 => j1 | 2 => j2 | 3 => j3 | 4 => j4 | 5 => j5 | 6 => j6 | 7 => j7 | 8 => j8 | _ => j9), fun c q hq => ?_⟩
    match c, hq with
    | 0, hq => cases hq; exact k0
    | 1, hq => cases hq; exact k1
    | 2, hq => cases hq; exact k2
    | 3, hq => cases hq; exact k3
    | 4, hq => cases hq; exact k4
    | 5, hq => cases hq; exact k5
    | 6, hq => cases hq; exact k6
    | 7, hq => cases hq; exact k7
    | 8, hq => cases hq; exact k8
    | 9, hq => cases hq; exact k9
    | c + 10, hq => simp [vwCl] at hq
  -- the rows' classes
  obtain ⟨i0, kI, cI, n0, g0, q0⟩ := Cond.arrayClass_spec (hts _ yAO_in.2.2.2.1)
  obtain ⟨i1, kB, cB, n1, g1, q1⟩ := Cond.arrayClass_spec (hts _ yAO_in.2.2.2.2.1)
  obtain ⟨i2, kZ, cZ, n2, g2, q2⟩ := Cond.arrayClass_spec (hts _ yAO_in.2.2.2.2.2)
  obtain ⟨m3, i3, k3', h31, h32, h33, h34⟩ : ∃ (comp cA : ClassId) (kA : Class), s.vm.findClass "UpperSteps$Image" = some comp ∧ s.vm.classes[cA]? = some kA ∧ kA.kind = .array comp (.object "UpperSteps$Image") ∧ s.vm.findClass ("[" ++ (FieldType.object "UpperSteps$Image").toString) = some cA := by
    obtain ⟨a1, a2, a3, b1, b2, b3, b4⟩ := Cond.arrayOver_spec (hts _ yAO_in.1)
    first | exact ⟨a1, a2, a3, b1, b3, b4.1, b4.2⟩ | exact ⟨a1, a2, a3, b1, b2, b3, b4⟩
  obtain ⟨m4, i4, k4', h41, h42, h43, h44⟩ : ∃ (comp cA : ClassId) (kA : Class), s.vm.findClass "UpperSteps$Sheet" = some comp ∧ s.vm.classes[cA]? = some kA ∧ kA.kind = .array comp (.object "UpperSteps$Sheet") ∧ s.vm.findClass ("[" ++ (FieldType.object "UpperSteps$Sheet").toString) = some cA := by
    obtain ⟨a1, a2, a3, b1, b2, b3, b4⟩ := Cond.arrayOver_spec (hts _ yAO_in.2.1)
    first | exact ⟨a1, a2, a3, b1, b3, b4.1, b4.2⟩ | exact ⟨a1, a2, a3, b1, b2, b3, b4⟩
  obtain ⟨m5, i5, k5', h51, -, h53, h54, h55⟩ := arrayOverA_spec (hts _ yAO_in.2.2.1)
  have e5 : m5 = i0 := Option.some.inj (h51.symm.trans n0)
  subst e5
  obtain ⟨ia, hia⟩ : ∃ ia : Nat → ClassId, ia 0 = m5 ∧ ia 1 = i1 ∧ ia 2 = i2 ∧ ia 3 = i3 ∧ ia 4 = i4 ∧ ia 5 = i5 := ⟨fun k => match k with | 0 => m5 | 1 => i1 | 2 => i2 | 3 => i3 | 4 => i4 | _ => i5, rfl, rfl, rfl, rfl, rfl, rfl⟩
  obtain ⟨ia0, ia1, ia2, ia3, ia4, ia5⟩ := hia
  have hK : va_K D vwCl (ztys ia) s := by
    refine ⟨hD, fun k q hq => ?_⟩
    match k, hq with
    | 0, hq => cases hq; rw [ia0]; exact ⟨fun n z => ⟨fun k h => (by cases h), _, g0, _, q0⟩, n0⟩
    | 1, hq => cases hq; rw [ia1]; exact ⟨fun n z => ⟨fun k h => (by cases h), _, g1, _, q1⟩, n1⟩
    | 2, hq => cases hq; rw [ia2]; exact ⟨fun n z => ⟨fun k h => (by cases h), _, g2, _, q2⟩, n2⟩
    | 3, hq => cases hq; rw [ia3]; exact ⟨fun n z => ⟨fun k h => (by cases h), _, h32, _, h33⟩, _, _, h32, h33, h31, h34⟩
    | 4, hq => cases hq; rw [ia4]; exact ⟨fun n z => ⟨fun k h => (by cases h), _, h42, _, h43⟩, _, _, h42, h43, h41, h44⟩
    | 5, hq => cases hq; rw [ia5]; exact ⟨fun n z => ⟨fun k h => (by cases h), _, h53, _, h54⟩, h55⟩
    | k + 6, hq => simp [ztys] at hq
  obtain ⟨a30, a31, hS, hev⟩ := vk_Sof (tm := ytm) (N := 6) (len := zsl) (byt := zsb) (A := fun q => s.heap.size ≤ q) yt_n (fun i hi => hs _ (yt_ex i hi)) (fun i hi => hs _ (yt_co i hi)) (fun i hi => hs _ (yt_ar i hi)) (fun i hi => hs _ (yt_le i hi)) (fun i hi j hj => hs _ (yt_el i hi j hj)) (fun i j hi hj hne => (yt_ne i hi j hj hne).imp (hs _) (hs _)) hA
  refine ⟨D, ia, a30, a31, ⟨hK, fun w hw => va_Nw.of (yNW_in w hw).2 (hts _ (yNW_in w hw).1), va_AO.of (hts _ yAO_in.1), va_AO.of (hts _ yAO_in.2.1), ⟨k5', by rw [ia5]; exact h53, by rw [ia0]; exact h54⟩⟩, fun w hw => va_Nw.of (zNW_in w hw).2 (hts _ (zNW_in w hw).1), fun i hi => vk_R.of (hts _ (yt_sr i hi)) (hev i hi), hS, va_Zof (hts _ yt_z1.1) (hts _ yt_z1.2.1) (va_eqi (hs _ yt_z1.2.2)) hA, va_Zqof (hts _ yt_z2.1) (hts _ yt_z2.2.1) (hs _ yt_z2.2.2) hA⟩
