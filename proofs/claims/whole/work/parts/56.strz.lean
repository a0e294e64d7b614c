/-! CONSTANT TEXTS: rows of the layer Z -/
section ZT
variable {l : Launch} {ad : ZA} {D : va_G} {ia : Nat → ClassId} {C : ZC} {X : Option Value} {Y : ZS} {d nL pc : Nat} {cc : ByteArray} {own : String} {ret : Option FieldType} {V : List (Nat × Value)} {St : List Value} {s : ZS}
theorem Z_ldcS (hC : Zok ad D ia C d cc nL "UpperSteps$Parser" ret) {i idx : Nat} (hi : i < 6) (he : zsi.getD i 0 = idx) (dd : decode cc pc = .ok (.ldc idx, 2)) (k : Z l ad D ia C X Y (pc + 2) V (.ref (ad 30 i) :: St) s) : Z l ad D ia C X Y pc V St s := by
  obtain ⟨p, e, R, s0, m, args, below, meth, c0⟩ := C
  obtain ⟨hx, hb, hml, hown, hts, hr, hlk, hR, hKK⟩ := hC
  intro H locs ls hw hS hl
  subst he
  exact va_ldcS hx hb hown (hKK.2.2.2.1 i hi) dd (k H locs ls hw hS hl)
theorem Z_getV (hC : Zok ad D ia C d cc nL "java/lang/String" ret) {i idx : Nat} (hi : i < 6) (hlink : Cond.fieldLink "java/lang/String" idx "java/lang/String" "value" "[B" ∈ WL) (dd : decode cc pc = .ok (.getfield idx, 3)) (k : Z l ad D ia C X Y (pc + 3) V (.ref (ad 31 i) :: St) s) : Z l ad D ia C X Y pc V (.ref (ad 30 i) :: St) s := by
  obtain ⟨p, e, R, s0, m, args, below, meth, c0⟩ := C
  obtain ⟨hx, hb, hml, hown, hts, hr, hlk, hR, hKK⟩ := hC
  intro H locs ls hw hS hl
  exact vk_getf hx hb (hKK.2.2.2.2.1.1 i hi).2.2.1 hS hown (hts _ hlink) (fun _ h => h) dd (k H locs ls hw hS hl)
theorem Z_getC (hC : Zok ad D ia C d cc nL "java/lang/String" ret) {i idx : Nat} (hi : i < 6) (hlink : Cond.fieldLink "java/lang/String" idx "java/lang/String" "coder" "B" ∈ WL) (dd : decode cc pc = .ok (.getfield idx, 3)) (k : Z l ad D ia C X Y (pc + 3) V (.int 0 :: St) s) : Z l ad D ia C X Y pc V (.ref (ad 30 i) :: St) s := by
  obtain ⟨p, e, R, s0, m, args, below, meth, c0⟩ := C
  obtain ⟨hx, hb, hml, hown, hts, hr, hlk, hR, hKK⟩ := hC
  intro H locs ls hw hS hl
  exact vk_getf hx hb (hKK.2.2.2.2.1.1 i hi).2.1 hS hown (hts _ hlink) (fun _ h => h) dd (k H locs ls hw hS hl)
theorem Z_alenS (hC : Zok ad D ia C d cc nL own ret) {i : Nat} (hi : i < 6) (dd : decode cc pc = .ok (.arraylength, 1)) (k : Z l ad D ia C X Y (pc + 1) V (.int (nI (zsl.getD i 0)) :: St) s) : Z l ad D ia C X Y pc V (.ref (ad 31 i) :: St) s := by
  obtain ⟨p, e, R, s0, m, args, below, meth, c0⟩ := C
  obtain ⟨hx, hb, hml, hown, hts, hr, hlk, hR, hKK⟩ := hC
  intro H locs ls hw hS hl
  exact va_tlen hx hb (hKK.2.2.2.2.1.1 i hi).2.2.2 hS rfl dd (k H locs ls hw hS hl)
theorem Z_baldS (hC : Zok ad D ia C d cc nL own ret) {i : Nat} {j : Int32} (hi : i < 6) (hin : vp_in j (zsl.getD i 0)) (dd : decode cc pc = .ok (.baload, 1)) (k : Z l ad D ia C X Y (pc + 1) V (.int ((zsb.getD i []).getD j.toNatClampNeg 0) :: St) s) : Z l ad D ia C X Y pc V (.int j :: .ref (ad 31 i) :: St) s := by
  obtain ⟨p, e, R, s0, m, args, below, meth, c0⟩ := C
  obtain ⟨hx, hb, hml, hown, hts, hr, hlk, hR, hKK⟩ := hC
  intro H locs ls hw hS hl
  exact va_tb hx hb (hKK.2.2.2.2.1.1 i hi).2.2.2 hS hin rfl dd (k H locs ls hw hS hl)
theorem Z_getsC (hC : Zok ad D ia C d cc nL "java/lang/String" ret) {idx : Nat} (hlink : Cond.fieldLink "java/lang/String" idx "java/lang/String" "COMPACT_STRINGS" "Z" ∈ WL) (dd : decode cc pc = .ok (.getstatic idx, 3)) (k : Z l ad D ia C X Y (pc + 3) V (.int 1 :: St) s) : Z l ad D ia C X Y pc V St s := by
  obtain ⟨p, e, R, s0, m, args, below, meth, c0⟩ := C
  obtain ⟨hx, hb, hml, hown, hts, hr, hlk, hR, hKK⟩ := hC
  intro H locs ls hw hS hl
  exact va_gets hx hb hKK.2.2.2.2.2.1 hS hown (hts _ hlink) (fun _ h => h) dd (k H locs ls hw hS hl)
theorem Z_getsF (hC : Zok ad D ia C d cc nL "java/lang/String" ret) {idx : Nat} (hlink : Cond.fieldLink "java/lang/String" idx "jdk/internal/util/Preconditions" "SIOOBE_FORMATTER" "Ljava/util/function/BiFunction;" ∈ WL) (dd : decode cc pc = .ok (.getstatic idx, 3)) (k0 : Z l ad D ia C X Y (pc + 3) V (.null :: St) s) (k1 : ∀ a, Z l ad D ia C X Y (pc + 3) V (.ref a :: St) s) : Z l ad D ia C X Y pc V St s := by
  obtain ⟨p, e, R, s0, m, args, below, meth, c0⟩ := C
  obtain ⟨hx, hb, hml, hown, hts, hr, hlk, hR, hKK⟩ := hC
  intro H locs ls hw hS hl
  rcases hKK.2.2.2.2.2.2 with h | ⟨t, h⟩
  · exact va_gets hx hb h hS hown (hts _ hlink) (fun _ h => h) dd (k0 H locs ls hw hS hl)
  · exact va_gets hx hb h hS hown (hts _ hlink) (fun _ h => h) dd (k1 t H locs ls hw hS hl)
theorem Z_i2c (hC : Zok ad D ia C d cc nL own ret) {x : Int32} (dd : decode cc pc = .ok (.i2c, 1)) (k : Z l ad D ia C X Y (pc + 1) V (.int (x.toUInt32 % 65536).toInt32 :: St) s) : Z l ad D ia C X Y pc V (.int x :: St) s := by
  obtain ⟨p, e, R, s0, m, args, below, meth, c0⟩ := C
  obtain ⟨hx, hb, hml, hown, hts, hr, hlk, hR, hKK⟩ := hC
  intro H locs ls hw hS hl
  exact lv_i2c hx hb dd rfl (k H locs ls hw hS hl)
theorem Z_nret {ty : FieldType} (hC : Zok ad D ia C d cc nL own (some ty)) {v : Int32} (dd : decode cc pc = .ok (.ireturn, 1)) (hn : narrow ty (.int v) = .int v) (hX : X = some (.int v)) (hY : Y = s) : Z l ad D ia C X Y pc V [.int v] s := by
  obtain ⟨p, e, R, s0, m, args, below, meth, c0⟩ := C
  obtain ⟨hx, hb, hml, hown, hts, hr, hlk, hR, hKK⟩ := hC
  intro H locs ls hw hS hl
  subst hX
  subst hY
  exact W.zret hx hb hr hn (fun t ht hW => ⟨⟨rfl, by rw [ht]; exact hw⟩, hS.F ht⟩) hS.2.2 dd hlk
theorem Z_callT (hC : Zok ad D ia C (d + 1) cc nL own ret) {M : ZM} {idx n i : Nat} {As rest : List Value} {X1 : Option Value} {Y1 : ZS} (hi : i < 6) (hM : M.1.cls = "java/lang/String") (hE : Ev l ad D ia d M (.ref (ad 30 i) :: As) s X1 Y1) (lk : zcV own idx M n) (hn : As.length = n) (hst : St = As.reverse ++ .ref (ad 30 i) :: rest) (hW : (rest.map fun v => v.category).sum ≤ 8) (dd : decode cc pc = .ok (.invokevirtual idx, 3)) (k : Z l ad D ia C X Y (pc + 3) V (X1.toList ++ rest) Y1) : Z l ad D ia C X Y pc V St s := by
  obtain ⟨p, e, R, s0, m, args, below, meth, c0⟩ := C
  obtain ⟨hx, hb, hml, hown, hts, hr, hlk, hR, hKK⟩ := hC
  intro H locs ls hw hS hl
  obtain ⟨hwd, hd, hm⟩ := lk
  subst hR
  have hR : (zrm d).frames + 1 ≤ (zrm (d + 1)).frames ∧ 8 + (M.2.2.1 + 11) + (zrm d).locals ≤ (zrm (d + 1)).locals := ⟨Nat.le_refl _, by simp only [zrm]; omega⟩
  have cw := cwV (C := M.1.cls) (ws := .code M.1 M.2.1 M.2.2.1 M.2.2.2 :: WL) (rm := zrm d) (mc := 0) (ms := 0) (R := zrm (d + 1)) n hts (fun w h => by
    simp only [wsV, List.mem_append, List.mem_cons, List.not_mem_nil, or_false] at h
    rcases h with (rfl | rfl | rfl | rfl) | h
    · exact zWL_good _ hwd.1
    · exact zWL_good _ hwd.2.1
    · exact zWL_good _ hwd.2.2.1
    · exact zWL_good _ hwd.2.2.2.1
    · exact zgood hwd.2.2.2.2 (fun _ h => h) w (List.mem_cons.mpr h)) rfl rfl rfl ⟨rfl, hd⟩ hR
  have hrecv : ∃ cellB : Cell, H[ad 30 i]? = some cellB ∧ cellB.vm.isStatics = false ∧ s0.vm.findClass M.1.cls = some cellB.cls := by
    rw [hM]
    exact vk_recv hKK.2.2.2.2.1 hi hS
  have hrun := va_runV (Ts := WL) (nL := c0.maxLocals) (g := F0 m pc ls St) (rest := rest) (As := As) (cells := 0) (slots := 0) (locs := locs) (e := e) (below := below) (meth := meth) ⟨hx, hb, rfl, hown, hts⟩ hE cw ⟨zblind, hrecv, fun U hU hWm => ⟨rfl, zK_warm hWm (by rw [hU]; exact hS.2.1) hKK, by rw [hU]; exact hw⟩⟩ rfl hn hl.1 hst (by simpa using hW) dd ⟨Nat.le_refl _, Nat.le_refl _⟩
  intro T hT Xs
  obtain ⟨v, st0, t, T2, L, h0, X2, hL, e1, e2, ⟨⟨hv, hwt⟩, hz, hk⟩, st⟩ := hrun T hT Xs
  cases hv
  rw [h0] at hz hk
  obtain ⟨t2, a1, b1⟩ := k T2.heap (locs ++ L) ls (by rw [e1]; exact hwt)
    ⟨Nat.le_trans hS.1 (by rw [e1]; exact hz), fun q h1 h2 => by rw [e1, hk q (Nat.lt_of_lt_of_le h1 hS.1) h2]; exact hS.2.1 q h1 h2, fun q hq => by
      rcases List.mem_append.mp hq with h | h
      · exact hS.2.2 q h
      · exact hL q h⟩ hl T2 rfl X2
  exact ⟨t2, st t2 a1, b1⟩
end ZT
