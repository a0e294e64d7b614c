def stI (s : ZS) (o k : Nat) (x : Int32) : ZS := va_up s o (setI (s o) k x)
def stL (s : ZS) (o k : Nat) (x : Int64) : ZS := va_up s o (setL (s o) k x)
def stA (s : ZS) (o k i : Nat) (x : Int32) : ZS := va_up s o (setA (s o) k (upd ((s o).2.2 k) i x))
def stR (s : ZS) (o k : Nat) (f : Nat → Int32) : ZS := va_up s o (setA (s o) k f)
def rm32 (x y : Int32) : Int32 := x - x / y * y
def rm64 (x y : Int64) : Int64 := x - x / y * y
def mabs (x : Int32) : Int32 := if 0 ≤ x then x else 0 - x
def mmax (x y : Int32) : Int32 := if x < y then y else x
def mmin (x y : Int32) : Int32 := if y < x then y else x
def ushr (x y : Int32) : Int32 := (x.toUInt32 >>> (y.toUInt32 &&& Int32.toUInt32 31)).toInt32
theorem zs_0 : 0 ∈ zsub 0 := by decide
theorem zs_1 : 0 ∈ zsub 1 := by decide
theorem zs_2 : 0 ∈ zsub 2 := by decide
theorem zs_3 : 0 ∈ zsub 3 := by decide
theorem zs_4 : 0 ∈ zsub 4 := by decide
theorem zs_5 : 0 ∈ zsub 5 := by decide
theorem zs_6 : 0 ∈ zsub 6 := by decide
theorem zs_7 : 0 ∈ zsub 7 := by decide
theorem zs_8 : 0 ∈ zsub 8 := by decide
theorem zs_9 : 0 ∈ zsub 9 := by decide
section ZL
variable {l : Launch} {ad : ZA} {D : va_G} {ia : Nat → ClassId} {C : ZC} {X : Option Value} {Y : ZS} {d nL pc : Nat} {cc : ByteArray} {own : String} {ret : Option FieldType} {V : List (Nat × Value)} {St : List Value} {s : ZS}
theorem Z_pick {V2 : List (Nat × Value)} (ks : List Nat) (h : lv_pick V ks = V2) (k : Z l ad D ia C X Y pc V2 St s) : Z l ad D ia C X Y pc V St s := by
  obtain ⟨p, e, R, s0, m, args, below, meth, c0⟩ := C
  intro H locs ls hw hS hl
  exact k H locs ls hw hS (lv_sub hl ks h)
theorem Z_putI (hC : Zok ad D ia C d cc nL own ret) {o c k idx : Nat} {ty : FieldType} {x : Int32} (ho : zcls o = c) (hc0 : 0 ∈ zsub c) (pk : zpk own idx c k ty) (hn : narrow ty (.int x) = .int x) (hfit : fits ty (.int x) = true) (hh : k < (zfs ad c o (s o)).length ∧ (zfs ad c o (s o)).set k (.int x) = zfs ad c o (setI (s o) k x)) (dd : decode cc pc = .ok (.putfield idx, 3)) (kk : ∀ s1, s1 = stI s o k x → Z l ad D ia C X Y (pc + 3) V St s1) : Z l ad D ia C X Y pc V (.int x :: .ref (ad o 0) :: St) s :=
  Z_put hC ho hc0 pk hn hfit hh.2 rfl hh.1 dd (kk _ rfl)
theorem Z_putL (hC : Zok ad D ia C d cc nL own ret) {o c k idx : Nat} {ty : FieldType} {x : Int64} (ho : zcls o = c) (hc0 : 0 ∈ zsub c) (pk : zpk own idx c k ty) (hn : narrow ty (.long x) = .long x) (hfit : fits ty (.long x) = true) (hh : k < (zfs ad c o (s o)).length ∧ (zfs ad c o (s o)).set k (.long x) = zfs ad c o (setL (s o) k x)) (dd : decode cc pc = .ok (.putfield idx, 3)) (kk : ∀ s1, s1 = stL s o k x → Z l ad D ia C X Y (pc + 3) V St s1) : Z l ad D ia C X Y pc V (.long x :: .ref (ad o 0) :: St) s :=
  Z_put hC ho hc0 pk hn hfit hh.2 rfl hh.1 dd (kk _ rfl)
theorem Z_iast2 (hC : Zok ad D ia C d cc nL own ret) {o k n : Nat} {i x : Int32} (hI : zis o k 0 n) (hin : vp_in i n) (dd : decode cc pc = .ok (.iastore, 1)) (kk : ∀ s1, s1 = stA s o k i.toNatClampNeg x → Z l ad D ia C X Y (pc + 1) V St s1) : Z l ad D ia C X Y pc V (.int x :: .int i :: .ref (ad o (k + 1)) :: St) s :=
  Z_iast hC hI hin dd (kk _ rfl)
theorem Z_bast2 (hC : Zok ad D ia C d cc nL own ret) {o k n : Nat} {i x : Int32} (hI : zis o k 1 n) (hin : vp_in i n) (dd : decode cc pc = .ok (.bastore, 1)) (kk : ∀ s1, s1 = stA s o k i.toNatClampNeg (vp_nar .byte x) → Z l ad D ia C X Y (pc + 1) V St s1) : Z l ad D ia C X Y pc V (.int x :: .int i :: .ref (ad o (k + 1)) :: St) s :=
  Z_bast hC hI hin dd (kk _ rfl)
theorem Z_zast2 (hC : Zok ad D ia C d cc nL own ret) {o k n : Nat} {i x : Int32} (hI : zis o k 2 n) (hin : vp_in i n) (dd : decode cc pc = .ok (.bastore, 1)) (kk : ∀ s1, s1 = stA s o k i.toNatClampNeg (vp_nar .boolean x) → Z l ad D ia C X Y (pc + 1) V St s1) : Z l ad D ia C X Y pc V (.int x :: .int i :: .ref (ad o (k + 1)) :: St) s :=
  Z_zast hC hI hin dd (kk _ rfl)
theorem Z_irem2 (hC : Zok ad D ia C d cc nL own ret) {x y : Int32} (dd : decode cc pc = .ok (.irem, 1)) (hy : ¬ y = 0) (k : Z l ad D ia C X Y (pc + 1) V (.int (rm32 x y) :: St) s) : Z l ad D ia C X Y pc V (.int y :: .int x :: St) s := Z_irem hC dd hy k
theorem Z_lrem2 (hC : Zok ad D ia C d cc nL own ret) {x y : Int64} (dd : decode cc pc = .ok (.lrem, 1)) (hy : ¬ y = 0) (k : Z l ad D ia C X Y (pc + 1) V (.long (rm64 x y) :: St) s) : Z l ad D ia C X Y pc V (.long y :: .long x :: St) s := Z_lrem hC dd hy k
theorem Z_iushr2 (hC : Zok ad D ia C d cc nL own ret) {x y : Int32} (dd : decode cc pc = .ok (.iushr, 1)) (k : Z l ad D ia C X Y (pc + 1) V (.int (ushr x y) :: St) s) : Z l ad D ia C X Y pc V (.int y :: .int x :: St) s := Z_iushr hC dd k
theorem Z_aaldR (hC : Zok ad D ia C d cc nL own ret) {i : Int32} (hin : vp_in i 10) (dd : decode cc pc = .ok (.aaload, 1)) (kk : Z l ad D ia C X Y (pc + 1) V (.ref (ad 19 (10 + i.toNatClampNeg + 1)) :: St) s) : Z l ad D ia C X Y pc V (.int i :: .ref (ad 19 1) :: St) s := by
  obtain ⟨p, e, R, s0, m, args, below, meth, c0⟩ := C
  obtain ⟨hx, hb, hml, hown, hts, hr, hlk, hR, hKK⟩ := hC
  intro H locs ls hw hS hl
  obtain ⟨f, hf, hP⟩ := id hw
  obtain ⟨q0, -, he⟩ := zget hf (o := 19) (k := 1) (zmem (by decide))
  have he : (va_pl (zLL ad) f)[q0]? = some (ad 19 1, .inl (ia 5, 10, .inr (.inr (.inr (.inr (zrf ad 19 0)))))) := he
  have hlt : i.toNatClampNeg < 10 := Nat.not_le.mp fun q => hin (Or.inr q)
  have hk := kk H locs ls hw hS hl
  have e2 : va_rf (zrf ad 19 0 i.toNatClampNeg) = .ref (ad 19 (10 + i.toNatClampNeg + 1)) := rfl
  rw [← e2] at hk
  exact W.aald (v := va_rf (zrf ad 19 0 i.toNatClampNeg)) (ty := .array .int) hx hb (hP q0 _ he) ((hKK.2.1.2 5 (ia 5, .array .int) rfl).1 10 (fun j => va_rf (zrf ad 19 0 j))) rfl (fun q => by cases q) (by show ¬ (i < 0 ∨ (arrV _ _ _).slots.size ≤ _); rw [arrV_size]; exact hin) (by show (arrV _ _ _).slots[_]? = _; rw [arrV_read _ _ hlt]) rfl rfl dd hk
theorem Z_mabs (hC : Zok ad D ia C (d + 1) cc nL own ret) {idx : Nat} {x : Int32} (hl1 : Cond.methodLink own idx Lib.Math.abs.name ∈ WL) (hl2 : Cond.static Lib.Math.abs.name ∈ WL) (hl3 : Cond.initialized "java/lang/Math" ∈ WL) (hl4 : Cond.code Lib.Math.abs.name Lib.Math.abs.code 1 (some .int) ∈ WL) (hc : (St.map fun v => v.category).sum ≤ 8) (dd : decode cc pc = .ok (.invokestatic idx, 3)) (k : Z l ad D ia C X Y (pc + 3) V (.int (mabs x) :: St) s) : Z l ad D ia C X Y pc V (.int x :: St) s := by
  obtain ⟨p, e, R, s0, m, args, below, meth, c0⟩ := C
  obtain ⟨hx, hb, hml, hown, hts, hr, hlk, hR, hKK⟩ := hC
  intro H locs ls hw hS hl
  subst hR
  exact va_mabs hx hb hl.1.symm hown (hts _ hl1) (hts _ hl2) (hts _ hl3) (hts _ hl4) (Nat.succ_le_succ (Nat.zero_le d)) (by simp only [zrm]; omega) (Nat.zero_le _) (Nat.zero_le _) dd (k H locs ls hw hS hl)
theorem Z_mmax (hC : Zok ad D ia C (d + 1) cc nL own ret) {idx : Nat} {x y : Int32} (hl1 : Cond.methodLink own idx Lib.Math.max.name ∈ WL) (hl2 : Cond.static Lib.Math.max.name ∈ WL) (hl3 : Cond.initialized "java/lang/Math" ∈ WL) (hl4 : Cond.code Lib.Math.max.name Lib.Math.max.code 2 (some .int) ∈ WL) (hc : (St.map fun v => v.category).sum ≤ 8) (dd : decode cc pc = .ok (.invokestatic idx, 3)) (k : Z l ad D ia C X Y (pc + 3) V (.int (mmax x y) :: St) s) : Z l ad D ia C X Y pc V (.int y :: .int x :: St) s := by
  obtain ⟨p, e, R, s0, m, args, below, meth, c0⟩ := C
  obtain ⟨hx, hb, hml, hown, hts, hr, hlk, hR, hKK⟩ := hC
  intro H locs ls hw hS hl
  subst hR
  exact va_mmax hx hb hl.1.symm hown (hts _ hl1) (hts _ hl2) (hts _ hl3) (hts _ hl4) (Nat.succ_le_succ (Nat.zero_le d)) (by simp only [zrm]; omega) (Nat.zero_le _) (Nat.zero_le _) dd (k H locs ls hw hS hl)
theorem Z_mmin (hC : Zok ad D ia C (d + 1) cc nL own ret) {idx : Nat} {x y : Int32} (hl1 : Cond.methodLink own idx Lib.Math.min.name ∈ WL) (hl2 : Cond.static Lib.Math.min.name ∈ WL) (hl3 : Cond.initialized "java/lang/Math" ∈ WL) (hl4 : Cond.code Lib.Math.min.name Lib.Math.min.code 2 (some .int) ∈ WL) (hc : (St.map fun v => v.category).sum ≤ 8) (dd : decode cc pc = .ok (.invokestatic idx, 3)) (k : Z l ad D ia C X Y (pc + 3) V (.int (mmin x y) :: St) s) : Z l ad D ia C X Y pc V (.int y :: .int x :: St) s := by
  obtain ⟨p, e, R, s0, m, args, below, meth, c0⟩ := C
  obtain ⟨hx, hb, hml, hown, hts, hr, hlk, hR, hKK⟩ := hC
  intro H locs ls hw hS hl
  subst hR
  exact va_mmin hx hb hl.1.symm hown (hts _ hl1) (hts _ hl2) (hts _ hl3) (hts _ hl4) (Nat.succ_le_succ (Nat.zero_le d)) (by simp only [zrm]; omega) (Nat.zero_le _) (Nat.zero_le _) dd (k H locs ls hw hS hl)
theorem Z_copy (hC : Zok ad D ia C (d + 1) cc nL own ret) {idx o0 k0 n0 o1 k1 n1 : Nat} {sp dp n : Int32} (hl1 : Cond.methodLink own idx arraycopyName ∈ WL) (hl2 : Cond.native arraycopyName ∈ WL) (hl3 : Cond.static arraycopyName ∈ WL) (hl4 : Cond.initialized "java/lang/System" ∈ WL) (hI0 : zis o0 k0 0 n0) (hI1 : zis o1 k1 0 n1) (h1 : ¬ sp < 0) (h2 : ¬ dp < 0) (h3 : ¬ n < 0) (h4 : sp.toNatClampNeg + n.toNatClampNeg ≤ n0) (h5 : dp.toNatClampNeg + n.toNatClampNeg ≤ n1) (hc : (St.map fun v => v.category).sum ≤ 8) (dd : decode cc pc = .ok (.invokestatic idx, 3))
    (kk : ∀ s1, s1 = stR s o1 k1 (va_cpy ((s o0).2.2 k0) ((s o1).2.2 k1) sp.toNatClampNeg dp.toNatClampNeg n.toNatClampNeg) → Z l ad D ia C X Y (pc + 3) V St s1) : Z l ad D ia C X Y pc V (.int n :: .int dp :: .ref (ad o1 (k1 + 1)) :: .int sp :: .ref (ad o0 (k0 + 1)) :: St) s := by
  obtain ⟨p, e, R, s0, m, args, below, meth, c0⟩ := C
  obtain ⟨hx, hb, hml, hown, hts, hr, hlk, hR, hKK⟩ := hC
  intro H locs ls hw hS hl
  subst hR
  obtain ⟨f, hf, hP⟩ := id hw
  obtain ⟨a1, a2, a3⟩ := hI0
  obtain ⟨b1, b2, b3⟩ := hI1
  obtain ⟨q0, hz0, he0⟩ := zget hf (zmem a1)
  obtain ⟨q1, hz1, he1⟩ := zget hf (zmem b1)
  have he0 : (va_pl (zLL ad) f)[q0]? = some (ad o0 (k0 + 1), .inl (ia 0, n0, .inl ((s o0).2.2 k0))) := by rw [he0]; simp [zce, zrow, a2, a3]
  have he1 : (va_pl (zLL ad) f)[q1]? = some (ad o1 (k1 + 1), .inl (ia 0, n1, .inl ((s o1).2.2 k1))) := by rw [he1]; simp [zce, zrow, b2, b3]
  have e9 : nativeFrameWords "java/lang/System" "arraycopy" 5 + 11 ≤ 30 := by decide +kernel
  refine va_copyi hx hb hl.1.symm hown (hts _ hl1) (hts _ hl2) (hts _ hl3) (hts _ hl4) hKK.2.1 hP (zD hKK.1) hS q0 q1 0 0 he0 he1 rfl rfl rfl h1 h2 h3 h4 h5 (fun _ _ => rfl) (Nat.succ_le_succ (Nat.zero_le d)) (by simp only [zrm]; omega) dd (fun H1 locs1 hP1 hD1 hS1 => kk _ rfl H1 locs1 ls ?_ hS1 hl)
  refine zset hKK.1 hf (zmem b1) hz1 ?_ ?_
  · have e2 : zce ad ia (stR s o1 k1 (va_cpy ((s o0).2.2 k0) ((s o1).2.2 k1) sp.toNatClampNeg dp.toNatClampNeg n.toNatClampNeg)) o1 (k1 + 1) = .inl (ia 0, n1, .inl (va_cpy ((s o0).2.2 k0) ((s o1).2.2 k1) sp.toNatClampNeg dp.toNatClampNeg n.toNatClampNeg)) := by simp [zce, zrow, stR, va_up, setA, b2, b3]
    rw [e2]
    exact hP1
  · exact zsetA_ne
end ZL
