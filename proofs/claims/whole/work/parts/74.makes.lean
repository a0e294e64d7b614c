/-! THE CONSTRUCTORS (laid by wip/gmake.py) -/
def mX0_init : ZM := (yX0_init, cX0_init, 1, none)
def po0 (n : Nat) : va_E := .inr (0, [.int 0, .ref n, .ref (n + 1), .ref (n + 2), .int 0, .ref (n + 3), .ref (n + 4), .ref (n + 5), .ref (n + 6), .int 0, .int 0, .int 0, .int 0, .int 0])
def bl0 (ia : Nat → ClassId) (n : Nat) : List va_E := [yr (ia 0) 8, yr (ia 0) 8, yr (ia 0) 8, yr (ia 0) 4, yr (ia 0) 4, yr (ia 0) 4, yr (ia 0) 4]
set_option maxRecDepth 100000 in
set_option maxHeartbeats 8000000 in
theorem mk0 {l : Launch} {D : va_G} {ia : Nat → ClassId} {d : Nat} : Mk l D ia (d + 1) 7 40 mX0_init (.inr (0, [.int 0, .null, .null, .null, .int 0, .null, .null, .null, .null, .int 0, .int 0, .int 0, .int 0, .int 0])) (fun n => po0 n) (fun n => bl0 ia n) := by
  refine Mk.start (by decide +kernel) rfl rfl (Nat.le_of_ble_eq_true rfl) (fun b n i0 es0 C hC => ?_)
  refine Y_aload_n hC dX0_init_0 rfl rfl ?_
  refine Y_objInit hC oiRX0 oiI oiC dX0_init_1 ?_
  refine Y_aload_n hC dX0_init_4 rfl rfl ?_
  refine Y_bipush (v := 8) hC dX0_init_5 (by decide) ?_
  refine Y_newa (t0 := 0) (N := 8) hC rfl ac_int rfl (fun _ h => h) rfl (by decide) (by decide) (by decide) (Nat.le_of_ble_eq_true rfl) (Nat.le_of_ble_eq_true rfl) dX0_init_7 ?_
  refine Y_put hC pfRX0_9 rfl rfl (Nat.le_of_ble_eq_true rfl) dX0_init_9 ?_
  show Y l D C 7 40 b n es0 i0 (yQ D b n es0 i0 (po0 n) (bl0 ia n)) 12 [(0, .ref (b + i0))] [] (.inr (0, [.int 0, .ref n, .null, .null, .int 0, .null, .null, .null, .null, .int 0, .int 0, .int 0, .int 0, .int 0])) [yr (ia 0) 8] 8
  refine Y_aload_n hC dX0_init_12 rfl rfl ?_
  refine Y_bipush (v := 8) hC dX0_init_13 (by decide) ?_
  refine Y_newa (t0 := 0) (N := 8) hC rfl ac_int rfl (fun _ h => h) rfl (by decide) (by decide) (by decide) (Nat.le_of_ble_eq_true rfl) (Nat.le_of_ble_eq_true rfl) dX0_init_15 ?_
  refine Y_put hC pfRX0_15 rfl rfl (Nat.le_of_ble_eq_true rfl) dX0_init_17 ?_
  show Y l D C 7 40 b n es0 i0 (yQ D b n es0 i0 (po0 n) (bl0 ia n)) 20 [(0, .ref (b + i0))] [] (.inr (0, [.int 0, .ref n, .ref (n + 1), .null, .int 0, .null, .null, .null, .null, .int 0, .int 0, .int 0, .int 0, .int 0])) [yr (ia 0) 8, yr (ia 0) 8] 16
  refine Y_aload_n hC dX0_init_20 rfl rfl ?_
  refine Y_bipush (v := 8) hC dX0_init_21 (by decide) ?_
  refine Y_newa (t0 := 0) (N := 8) hC rfl ac_int rfl (fun _ h => h) rfl (by decide) (by decide) (by decide) (Nat.le_of_ble_eq_true rfl) (Nat.le_of_ble_eq_true rfl) dX0_init_23 ?_
  refine Y_put hC pfRX0_18 rfl rfl (Nat.le_of_ble_eq_true rfl) dX0_init_25 ?_
  show Y l D C 7 40 b n es0 i0 (yQ D b n es0 i0 (po0 n) (bl0 ia n)) 28 [(0, .ref (b + i0))] [] (.inr (0, [.int 0, .ref n, .ref (n + 1), .ref (n + 2), .int 0, .null, .null, .null, .null, .int 0, .int 0, .int 0, .int 0, .int 0])) [yr (ia 0) 8, yr (ia 0) 8, yr (ia 0) 8] 24
  refine Y_aload_n hC dX0_init_28 rfl rfl ?_
  refine Y_iconst (v := 4) hC dX0_init_29 (by decide) ?_
  refine Y_newa (t0 := 0) (N := 4) hC rfl ac_int rfl (fun _ h => h) rfl (by decide) (by decide) (by decide) (Nat.le_of_ble_eq_true rfl) (Nat.le_of_ble_eq_true rfl) dX0_init_30 ?_
  refine Y_put hC pfRX0_21 rfl rfl (Nat.le_of_ble_eq_true rfl) dX0_init_32 ?_
  show Y l D C 7 40 b n es0 i0 (yQ D b n es0 i0 (po0 n) (bl0 ia n)) 35 [(0, .ref (b + i0))] [] (.inr (0, [.int 0, .ref n, .ref (n + 1), .ref (n + 2), .int 0, .ref (n + 3), .null, .null, .null, .int 0, .int 0, .int 0, .int 0, .int 0])) [yr (ia 0) 8, yr (ia 0) 8, yr (ia 0) 8, yr (ia 0) 4] 28
  refine Y_aload_n hC dX0_init_35 rfl rfl ?_
  refine Y_iconst (v := 4) hC dX0_init_36 (by decide) ?_
  refine Y_newa (t0 := 0) (N := 4) hC rfl ac_int rfl (fun _ h => h) rfl (by decide) (by decide) (by decide) (Nat.le_of_ble_eq_true rfl) (Nat.le_of_ble_eq_true rfl) dX0_init_37 ?_
  refine Y_put hC pfRX0_24 rfl rfl (Nat.le_of_ble_eq_true rfl) dX0_init_39 ?_
  show Y l D C 7 40 b n es0 i0 (yQ D b n es0 i0 (po0 n) (bl0 ia n)) 42 [(0, .ref (b + i0))] [] (.inr (0, [.int 0, .ref n, .ref (n + 1), .ref (n + 2), .int 0, .ref (n + 3), .ref (n + 4), .null, .null, .int 0, .int 0, .int 0, .int 0, .int 0])) [yr (ia 0) 8, yr (ia 0) 8, yr (ia 0) 8, yr (ia 0) 4, yr (ia 0) 4] 32
  refine Y_aload_n hC dX0_init_42 rfl rfl ?_
  refine Y_iconst (v := 4) hC dX0_init_43 (by decide) ?_
  refine Y_newa (t0 := 0) (N := 4) hC rfl ac_int rfl (fun _ h => h) rfl (by decide) (by decide) (by decide) (Nat.le_of_ble_eq_true rfl) (Nat.le_of_ble_eq_true rfl) dX0_init_44 ?_
  refine Y_put hC pfRX0_27 rfl rfl (Nat.le_of_ble_eq_true rfl) dX0_init_46 ?_
  show Y l D C 7 40 b n es0 i0 (yQ D b n es0 i0 (po0 n) (bl0 ia n)) 49 [(0, .ref (b + i0))] [] (.inr (0, [.int 0, .ref n, .ref (n + 1), .ref (n + 2), .int 0, .ref (n + 3), .ref (n + 4), .ref (n + 5), .null, .int 0, .int 0, .int 0, .int 0, .int 0])) [yr (ia 0) 8, yr (ia 0) 8, yr (ia 0) 8, yr (ia 0) 4, yr (ia 0) 4, yr (ia 0) 4] 36
  refine Y_aload_n hC dX0_init_49 rfl rfl ?_
  refine Y_iconst (v := 4) hC dX0_init_50 (by decide) ?_
  refine Y_newa (t0 := 0) (N := 4) hC rfl ac_int rfl (fun _ h => h) rfl (by decide) (by decide) (by decide) (Nat.le_of_ble_eq_true rfl) (Nat.le_of_ble_eq_true rfl) dX0_init_51 ?_
  refine Y_put hC pfRX0_30 rfl rfl (Nat.le_of_ble_eq_true rfl) dX0_init_53 ?_
  show Y l D C 7 40 b n es0 i0 (yQ D b n es0 i0 (po0 n) (bl0 ia n)) 56 [(0, .ref (b + i0))] [] (.inr (0, [.int 0, .ref n, .ref (n + 1), .ref (n + 2), .int 0, .ref (n + 3), .ref (n + 4), .ref (n + 5), .ref (n + 6), .int 0, .int 0, .int 0, .int 0, .int 0])) [yr (ia 0) 8, yr (ia 0) 8, yr (ia 0) 8, yr (ia 0) 4, yr (ia 0) 4, yr (ia 0) 4, yr (ia 0) 4] 40
  exact Y_ret hC dX0_init_56 rfl rfl rfl rfl
def mX6_init : ZM := (yX6_init, cX6_init, 1, none)
def po6 (n : Nat) : va_E := .inr (6, [.int 0, .ref n, .ref (n + 1), .ref (n + 2)])
def bl6 (ia : Nat → ClassId) (n : Nat) : List va_E := [yr (ia 0) 6, yr (ia 0) 6, yr (ia 0) 6]
set_option maxRecDepth 100000 in
set_option maxHeartbeats 8000000 in
theorem mk6 {l : Launch} {D : va_G} {ia : Nat → ClassId} {d : Nat} : Mk l D ia (d + 1) 3 18 mX6_init (.inr (6, [.int 0, .null, .null, .null])) (fun n => po6 n) (fun n => bl6 ia n) := by
  refine Mk.start (by decide +kernel) rfl rfl (Nat.le_of_ble_eq_true rfl) (fun b n i0 es0 C hC => ?_)
  refine Y_aload_n hC dX6_init_0 rfl rfl ?_
  refine Y_objInit hC oiRX6 oiI oiC dX6_init_1 ?_
  refine Y_aload_n hC dX6_init_4 rfl rfl ?_
  refine Y_bipush (v := 6) hC dX6_init_5 (by decide) ?_
  refine Y_newa (t0 := 0) (N := 6) hC rfl ac_int rfl (fun _ h => h) rfl (by decide) (by decide) (by decide) (Nat.le_of_ble_eq_true rfl) (Nat.le_of_ble_eq_true rfl) dX6_init_7 ?_
  refine Y_put hC pfRX6_9 rfl rfl (Nat.le_of_ble_eq_true rfl) dX6_init_9 ?_
  show Y l D C 3 18 b n es0 i0 (yQ D b n es0 i0 (po6 n) (bl6 ia n)) 12 [(0, .ref (b + i0))] [] (.inr (6, [.int 0, .ref n, .null, .null])) [yr (ia 0) 6] 6
  refine Y_aload_n hC dX6_init_12 rfl rfl ?_
  refine Y_bipush (v := 6) hC dX6_init_13 (by decide) ?_
  refine Y_newa (t0 := 0) (N := 6) hC rfl ac_int rfl (fun _ h => h) rfl (by decide) (by decide) (by decide) (Nat.le_of_ble_eq_true rfl) (Nat.le_of_ble_eq_true rfl) dX6_init_15 ?_
  refine Y_put hC pfRX6_15 rfl rfl (Nat.le_of_ble_eq_true rfl) dX6_init_17 ?_
  show Y l D C 3 18 b n es0 i0 (yQ D b n es0 i0 (po6 n) (bl6 ia n)) 20 [(0, .ref (b + i0))] [] (.inr (6, [.int 0, .ref n, .ref (n + 1), .null])) [yr (ia 0) 6, yr (ia 0) 6] 12
  refine Y_aload_n hC dX6_init_20 rfl rfl ?_
  refine Y_bipush (v := 6) hC dX6_init_21 (by decide) ?_
  refine Y_newa (t0 := 0) (N := 6) hC rfl ac_int rfl (fun _ h => h) rfl (by decide) (by decide) (by decide) (Nat.le_of_ble_eq_true rfl) (Nat.le_of_ble_eq_true rfl) dX6_init_23 ?_
  refine Y_put hC pfRX6_18 rfl rfl (Nat.le_of_ble_eq_true rfl) dX6_init_25 ?_
  show Y l D C 3 18 b n es0 i0 (yQ D b n es0 i0 (po6 n) (bl6 ia n)) 28 [(0, .ref (b + i0))] [] (.inr (6, [.int 0, .ref n, .ref (n + 1), .ref (n + 2)])) [yr (ia 0) 6, yr (ia 0) 6, yr (ia 0) 6] 18
  exact Y_ret hC dX6_init_28 rfl rfl rfl rfl
def mX7_init : ZM := (yX7_init, cX7_init, 1, none)
def po7 (n : Nat) : va_E := .inr (7, [.ref n, .int 0, .int 0, .int 0, .int 0])
def bl7 (ia : Nat → ClassId) (n : Nat) : List va_E := [yr (ia 1) 160]
set_option maxRecDepth 100000 in
set_option maxHeartbeats 8000000 in
theorem mk7 {l : Launch} {D : va_G} {ia : Nat → ClassId} {d : Nat} : Mk l D ia (d + 1) 1 160 mX7_init (.inr (7, [.null, .int 0, .int 0, .int 0, .int 0])) (fun n => po7 n) (fun n => bl7 ia n) := by
  refine Mk.start (by decide +kernel) rfl rfl (Nat.le_of_ble_eq_true rfl) (fun b n i0 es0 C hC => ?_)
  refine Y_aload_n hC dX7_init_0 rfl rfl ?_
  refine Y_objInit hC oiRX7 oiI oiC dX7_init_1 ?_
  refine Y_aload_n hC dX7_init_4 rfl rfl ?_
  refine Y_sipush (v := 160) hC dX7_init_5 (by decide) ?_
  refine Y_newa (t0 := 1) (N := 160) hC rfl ac_byte rfl (fun _ h => h) rfl (by decide) (by decide) (by decide) (Nat.le_of_ble_eq_true rfl) (Nat.le_of_ble_eq_true rfl) dX7_init_8 ?_
  refine Y_put hC pfRX7_9 rfl rfl (Nat.le_of_ble_eq_true rfl) dX7_init_10 ?_
  show Y l D C 1 160 b n es0 i0 (yQ D b n es0 i0 (po7 n) (bl7 ia n)) 13 [(0, .ref (b + i0))] [] (.inr (7, [.ref n, .int 0, .int 0, .int 0, .int 0])) [yr (ia 1) 160] 160
  exact Y_ret hC dX7_init_13 rfl rfl rfl rfl
def mX5_init : ZM := (yX5_init, cX5_init, 1, none)
def po5 (n : Nat) : va_E := .inr (5, [.int (-4), .int 0, .ref n])
def bl5 (ia : Nat → ClassId) (n : Nat) : List va_E := [yr (ia 0) 40]
set_option maxRecDepth 100000 in
set_option maxHeartbeats 8000000 in
theorem mk5 {l : Launch} {D : va_G} {ia : Nat → ClassId} {d : Nat} : Mk l D ia (d + 1) 1 40 mX5_init (.inr (5, [.int 0, .int 0, .null])) (fun n => po5 n) (fun n => bl5 ia n) := by
  refine Mk.start (by decide +kernel) rfl rfl (Nat.le_of_ble_eq_true rfl) (fun b n i0 es0 C hC => ?_)
  refine Y_aload_n hC dX5_init_0 rfl rfl ?_
  refine Y_objInit hC oiRX5 oiI oiC dX5_init_1 ?_
  refine Y_aload_n hC dX5_init_4 rfl rfl ?_
  refine Y_bipush (v := (-4)) hC dX5_init_5 (by decide) ?_
  refine Y_put hC pfRX5_9 rfl rfl (Nat.le_of_ble_eq_true rfl) dX5_init_7 ?_
  show Y l D C 1 40 b n es0 i0 (yQ D b n es0 i0 (po5 n) (bl5 ia n)) 10 [(0, .ref (b + i0))] [] (.inr (5, [.int (-4), .int 0, .null])) [] 0
  refine Y_aload_n hC dX5_init_10 rfl rfl ?_
  refine Y_bipush (v := 40) hC dX5_init_11 (by decide) ?_
  refine Y_newa (t0 := 0) (N := 40) hC rfl ac_int rfl (fun _ h => h) rfl (by decide) (by decide) (by decide) (Nat.le_of_ble_eq_true rfl) (Nat.le_of_ble_eq_true rfl) dX5_init_13 ?_
  refine Y_put hC pfRX5_15 rfl rfl (Nat.le_of_ble_eq_true rfl) dX5_init_15 ?_
  show Y l D C 1 40 b n es0 i0 (yQ D b n es0 i0 (po5 n) (bl5 ia n)) 18 [(0, .ref (b + i0))] [] (.inr (5, [.int (-4), .int 0, .ref n])) [yr (ia 0) 40] 40
  exact Y_ret hC dX5_init_18 rfl rfl rfl rfl
def mX3_init : ZM := (yX3_init, cX3_init, 1, none)
def po3 (n : Nat) : va_E := .inr (3, [.int 0, .int 0, .int 0, .int 0, .ref n, .ref (n + 2)])
def bl3 (ia : Nat → ClassId) (n : Nat) : List va_E := [.inr (7, [.ref (n + 1), .int 0, .int 0, .int 0, .int 0]), yr (ia 1) 160, .inr (0, [.int 0, .ref (n + 3), .ref (n + 4), .ref (n + 5), .int 0, .ref (n + 6), .ref (n + 7), .ref (n + 8), .ref (n + 9), .int 0, .int 0, .int 0, .int 0, .int 0]), yr (ia 0) 8, yr (ia 0) 8, yr (ia 0) 8, yr (ia 0) 4, yr (ia 0) 4, yr (ia 0) 4, yr (ia 0) 4]
set_option maxRecDepth 100000 in
set_option maxHeartbeats 8000000 in
theorem mk3 {l : Launch} {D : va_G} {ia : Nat → ClassId} {d : Nat} : Mk l D ia (d + 2) 10 219 mX3_init (.inr (3, [.int 0, .int 0, .int 0, .int 0, .null, .null])) (fun n => po3 n) (fun n => bl3 ia n) := by
  refine Mk.start (by decide +kernel) rfl rfl (Nat.le_of_ble_eq_true rfl) (fun b n i0 es0 C hC => ?_)
  refine Y_aload_n hC dX3_init_0 rfl rfl ?_
  refine Y_objInit hC oiRX3 oiI oiC dX3_init_1 ?_
  refine Y_aload_n hC dX3_init_4 rfl rfl ?_
  refine Y_new hC nkRX3_9 (Nat.le_of_ble_eq_true rfl) (Nat.le_of_ble_eq_true rfl) dX3_init_5 ?_
  refine Y_dup hC dX3_init_8 rfl ?_
  refine Y_call (n1 := (n + 1)) (mc1 := 1) (ms1 := 160) (j := 0) hC mk7 rfl (by decide +kernel) (wlm 163 (by decide +kernel) (by decide +kernel)) (wlm 57 (by decide +kernel) (by decide +kernel)) (wlm 164 (by decide +kernel) (by decide +kernel)) ⟨⟨by decide +kernel, by decide +kernel, by decide +kernel⟩, by decide⟩ rfl rfl rfl ⟨⟨Nat.le_of_ble_eq_true rfl, rfl⟩, Nat.le_of_ble_eq_true rfl⟩ (Nat.le_of_ble_eq_true rfl) dX3_init_9 ?_
  show Y l D C 10 219 b n es0 i0 (yQ D b n es0 i0 (po3 n) (bl3 ia n)) 12 [(0, .ref (b + i0))] [.ref (n + 0), .ref (b + i0)] (.inr (3, [.int 0, .int 0, .int 0, .int 0, .null, .null])) [.inr (7, [.ref (n + 1), .int 0, .int 0, .int 0, .int 0]), yr (ia 1) 160] 165
  refine Y_put hC pfRX3_12 rfl rfl (Nat.le_of_ble_eq_true rfl) dX3_init_12 ?_
  show Y l D C 10 219 b n es0 i0 (yQ D b n es0 i0 (po3 n) (bl3 ia n)) 15 [(0, .ref (b + i0))] [] (.inr (3, [.int 0, .int 0, .int 0, .int 0, .ref n, .null])) [.inr (7, [.ref (n + 1), .int 0, .int 0, .int 0, .int 0]), yr (ia 1) 160] 165
  refine Y_aload_n hC dX3_init_15 rfl rfl ?_
  refine Y_new hC nkRX3_18 (Nat.le_of_ble_eq_true rfl) (Nat.le_of_ble_eq_true rfl) dX3_init_16 ?_
  refine Y_dup hC dX3_init_19 rfl ?_
  refine Y_call (n1 := (n + 3)) (mc1 := 7) (ms1 := 40) (j := 2) hC mk0 rfl (by decide +kernel) (wlm 82 (by decide +kernel) (by decide +kernel)) (wlm 55 (by decide +kernel) (by decide +kernel)) (wlm 83 (by decide +kernel) (by decide +kernel)) ⟨⟨by decide +kernel, by decide +kernel, by decide +kernel⟩, by decide⟩ rfl rfl rfl ⟨⟨Nat.le_of_ble_eq_true rfl, rfl⟩, Nat.le_of_ble_eq_true rfl⟩ (Nat.le_of_ble_eq_true rfl) dX3_init_20 ?_
  show Y l D C 10 219 b n es0 i0 (yQ D b n es0 i0 (po3 n) (bl3 ia n)) 23 [(0, .ref (b + i0))] [.ref (n + 2), .ref (b + i0)] (.inr (3, [.int 0, .int 0, .int 0, .int 0, .ref n, .null])) [.inr (7, [.ref (n + 1), .int 0, .int 0, .int 0, .int 0]), yr (ia 1) 160, .inr (0, [.int 0, .ref (n + 3), .ref (n + 4), .ref (n + 5), .int 0, .ref (n + 6), .ref (n + 7), .ref (n + 8), .ref (n + 9), .int 0, .int 0, .int 0, .int 0, .int 0]), yr (ia 0) 8, yr (ia 0) 8, yr (ia 0) 8, yr (ia 0) 4, yr (ia 0) 4, yr (ia 0) 4, yr (ia 0) 4] 219
  refine Y_put hC pfRX3_21 rfl rfl (Nat.le_of_ble_eq_true rfl) dX3_init_23 ?_
  show Y l D C 10 219 b n es0 i0 (yQ D b n es0 i0 (po3 n) (bl3 ia n)) 26 [(0, .ref (b + i0))] [] (.inr (3, [.int 0, .int 0, .int 0, .int 0, .ref n, .ref (n + 2)])) [.inr (7, [.ref (n + 1), .int 0, .int 0, .int 0, .int 0]), yr (ia 1) 160, .inr (0, [.int 0, .ref (n + 3), .ref (n + 4), .ref (n + 5), .int 0, .ref (n + 6), .ref (n + 7), .ref (n + 8), .ref (n + 9), .int 0, .int 0, .int 0, .int 0, .int 0]), yr (ia 0) 8, yr (ia 0) 8, yr (ia 0) 8, yr (ia 0) 4, yr (ia 0) 4, yr (ia 0) 4, yr (ia 0) 4] 219
  exact Y_ret hC dX3_init_26 rfl rfl rfl rfl
def mX4_init : ZM := (yX4_init, cX4_init, 1, none)
def po4 (n : Nat) : va_E := .inr (4, [.int 0, .ref n, .ref (n + 1), .ref (n + 2)])
def bl4 (ia : Nat → ClassId) (n : Nat) : List va_E := [yr (ia 0) 8, yr (ia 0) 8, .inr (0, [.int 0, .ref (n + 3), .ref (n + 4), .ref (n + 5), .int 0, .ref (n + 6), .ref (n + 7), .ref (n + 8), .ref (n + 9), .int 0, .int 0, .int 0, .int 0, .int 0]), yr (ia 0) 8, yr (ia 0) 8, yr (ia 0) 8, yr (ia 0) 4, yr (ia 0) 4, yr (ia 0) 4, yr (ia 0) 4]
set_option maxRecDepth 100000 in
set_option maxHeartbeats 8000000 in
theorem mk4 {l : Launch} {D : va_G} {ia : Nat → ClassId} {d : Nat} : Mk l D ia (d + 2) 10 70 mX4_init (.inr (4, [.int 0, .null, .null, .null])) (fun n => po4 n) (fun n => bl4 ia n) := by
  refine Mk.start (by decide +kernel) rfl rfl (Nat.le_of_ble_eq_true rfl) (fun b n i0 es0 C hC => ?_)
  refine Y_aload_n hC dX4_init_0 rfl rfl ?_
  refine Y_objInit hC oiRX4 oiI oiC dX4_init_1 ?_
  refine Y_aload_n hC dX4_init_4 rfl rfl ?_
  refine Y_bipush (v := 8) hC dX4_init_5 (by decide) ?_
  refine Y_newa (t0 := 0) (N := 8) hC rfl ac_int rfl (fun _ h => h) rfl (by decide) (by decide) (by decide) (Nat.le_of_ble_eq_true rfl) (Nat.le_of_ble_eq_true rfl) dX4_init_7 ?_
  refine Y_put hC pfRX4_9 rfl rfl (Nat.le_of_ble_eq_true rfl) dX4_init_9 ?_
  show Y l D C 10 70 b n es0 i0 (yQ D b n es0 i0 (po4 n) (bl4 ia n)) 12 [(0, .ref (b + i0))] [] (.inr (4, [.int 0, .ref n, .null, .null])) [yr (ia 0) 8] 8
  refine Y_aload_n hC dX4_init_12 rfl rfl ?_
  refine Y_bipush (v := 8) hC dX4_init_13 (by decide) ?_
  refine Y_newa (t0 := 0) (N := 8) hC rfl ac_int rfl (fun _ h => h) rfl (by decide) (by decide) (by decide) (Nat.le_of_ble_eq_true rfl) (Nat.le_of_ble_eq_true rfl) dX4_init_15 ?_
  refine Y_put hC pfRX4_15 rfl rfl (Nat.le_of_ble_eq_true rfl) dX4_init_17 ?_
  show Y l D C 10 70 b n es0 i0 (yQ D b n es0 i0 (po4 n) (bl4 ia n)) 20 [(0, .ref (b + i0))] [] (.inr (4, [.int 0, .ref n, .ref (n + 1), .null])) [yr (ia 0) 8, yr (ia 0) 8] 16
  refine Y_aload_n hC dX4_init_20 rfl rfl ?_
  refine Y_new hC nkRX4_18 (Nat.le_of_ble_eq_true rfl) (Nat.le_of_ble_eq_true rfl) dX4_init_21 ?_
  refine Y_dup hC dX4_init_24 rfl ?_
  refine Y_call (n1 := (n + 3)) (mc1 := 7) (ms1 := 40) (j := 2) hC mk0 rfl (by decide +kernel) (wlm 82 (by decide +kernel) (by decide +kernel)) (wlm 55 (by decide +kernel) (by decide +kernel)) (wlm 83 (by decide +kernel) (by decide +kernel)) ⟨⟨by decide +kernel, by decide +kernel, by decide +kernel⟩, by decide⟩ rfl rfl rfl ⟨⟨Nat.le_of_ble_eq_true rfl, rfl⟩, Nat.le_of_ble_eq_true rfl⟩ (Nat.le_of_ble_eq_true rfl) dX4_init_25 ?_
  show Y l D C 10 70 b n es0 i0 (yQ D b n es0 i0 (po4 n) (bl4 ia n)) 28 [(0, .ref (b + i0))] [.ref (n + 2), .ref (b + i0)] (.inr (4, [.int 0, .ref n, .ref (n + 1), .null])) [yr (ia 0) 8, yr (ia 0) 8, .inr (0, [.int 0, .ref (n + 3), .ref (n + 4), .ref (n + 5), .int 0, .ref (n + 6), .ref (n + 7), .ref (n + 8), .ref (n + 9), .int 0, .int 0, .int 0, .int 0, .int 0]), yr (ia 0) 8, yr (ia 0) 8, yr (ia 0) 8, yr (ia 0) 4, yr (ia 0) 4, yr (ia 0) 4, yr (ia 0) 4] 70
  refine Y_put hC pfRX4_21 rfl rfl (Nat.le_of_ble_eq_true rfl) dX4_init_28 ?_
  show Y l D C 10 70 b n es0 i0 (yQ D b n es0 i0 (po4 n) (bl4 ia n)) 31 [(0, .ref (b + i0))] [] (.inr (4, [.int 0, .ref n, .ref (n + 1), .ref (n + 2)])) [yr (ia 0) 8, yr (ia 0) 8, .inr (0, [.int 0, .ref (n + 3), .ref (n + 4), .ref (n + 5), .int 0, .ref (n + 6), .ref (n + 7), .ref (n + 8), .ref (n + 9), .int 0, .int 0, .int 0, .int 0, .int 0]), yr (ia 0) 8, yr (ia 0) 8, yr (ia 0) 8, yr (ia 0) 4, yr (ia 0) 4, yr (ia 0) 4, yr (ia 0) 4] 70
  exact Y_ret hC dX4_init_31 rfl rfl rfl rfl
def mX2_init : ZM := (yX2_init, cX2_init, 1, none)
def po2 (n : Nat) : va_E := .inr (2, [.ref n, .ref (n + 11)])
def bl2 (ia : Nat → ClassId) (n : Nat) : List va_E := [.inl (ia 5, 10, .inr (.inr (.inr (.inr (yq (n + 0)))))), yr (ia 0) 84, yr (ia 0) 84, yr (ia 0) 84, yr (ia 0) 84, yr (ia 0) 84, yr (ia 0) 84, yr (ia 0) 84, yr (ia 0) 84, yr (ia 0) 84, yr (ia 0) 84, yr (ia 0) 9]
set_option maxRecDepth 100000 in
set_option maxHeartbeats 8000000 in
theorem mk2 {l : Launch} {D : va_G} {ia : Nat → ClassId} {d : Nat} : Mk l D ia (d + 1) 12 859 mX2_init (.inr (2, [.null, .null])) (fun n => po2 n) (fun n => bl2 ia n) := by
  refine Mk.start (by decide +kernel) rfl rfl (Nat.le_of_ble_eq_true rfl) (fun b n i0 es0 C hC => ?_)
  refine Y_aload_n hC dX2_init_0 rfl rfl ?_
  refine Y_objInit hC oiRX2 oiI oiC dX2_init_1 ?_
  refine Y_aload_n hC dX2_init_4 rfl rfl ?_
  refine Y_bipush (v := 10) hC dX2_init_5 (by decide) ?_
  refine Y_bipush (v := 84) hC dX2_init_7 (by decide) ?_
  refine Y_multi hC clMN (Nat.le_of_ble_eq_true rfl) (Nat.le_of_ble_eq_true rfl) dX2_init_9 ?_
  refine Y_put hC pfRX2_11 rfl rfl (Nat.le_of_ble_eq_true rfl) dX2_init_13 ?_
  show Y l D C 12 859 b n es0 i0 (yQ D b n es0 i0 (po2 n) (bl2 ia n)) 16 [(0, .ref (b + i0))] [] (.inr (2, [.ref n, .null])) [.inl (ia 5, 10, .inr (.inr (.inr (.inr (yq (n + 0)))))), yr (ia 0) 84, yr (ia 0) 84, yr (ia 0) 84, yr (ia 0) 84, yr (ia 0) 84, yr (ia 0) 84, yr (ia 0) 84, yr (ia 0) 84, yr (ia 0) 84, yr (ia 0) 84] 850
  refine Y_aload_n hC dX2_init_16 rfl rfl ?_
  refine Y_bipush (v := 9) hC dX2_init_17 (by decide) ?_
  refine Y_newa (t0 := 0) (N := 9) hC rfl ac_int rfl (fun _ h => h) rfl (by decide) (by decide) (by decide) (Nat.le_of_ble_eq_true rfl) (Nat.le_of_ble_eq_true rfl) dX2_init_19 ?_
  refine Y_put hC pfRX2_16 rfl rfl (Nat.le_of_ble_eq_true rfl) dX2_init_21 ?_
  show Y l D C 12 859 b n es0 i0 (yQ D b n es0 i0 (po2 n) (bl2 ia n)) 24 [(0, .ref (b + i0))] [] (.inr (2, [.ref n, .ref (n + 11)])) [.inl (ia 5, 10, .inr (.inr (.inr (.inr (yq (n + 0)))))), yr (ia 0) 84, yr (ia 0) 84, yr (ia 0) 84, yr (ia 0) 84, yr (ia 0) 84, yr (ia 0) 84, yr (ia 0) 84, yr (ia 0) 84, yr (ia 0) 84, yr (ia 0) 84, yr (ia 0) 9] 859
  exact Y_ret hC dX2_init_24 rfl rfl rfl rfl
def mX1_init : ZM := (yX1_init, cX1_init, 1, none)
def po1 (n : Nat) : va_E := .inr (1, [.int 0, .ref n, .ref (n + 8)])
def bl1 (ia : Nat → ClassId) (n : Nat) : List va_E := [.inr (0, [.int 0, .ref (n + 1), .ref (n + 2), .ref (n + 3), .int 0, .ref (n + 4), .ref (n + 5), .ref (n + 6), .ref (n + 7), .int 0, .int 0, .int 0, .int 0, .int 0]), yr (ia 0) 8, yr (ia 0) 8, yr (ia 0) 8, yr (ia 0) 4, yr (ia 0) 4, yr (ia 0) 4, yr (ia 0) 4, .inr (6, [.int 0, .ref (n + 9), .ref (n + 10), .ref (n + 11)]), yr (ia 0) 6, yr (ia 0) 6, yr (ia 0) 6]
set_option maxRecDepth 100000 in
set_option maxHeartbeats 8000000 in
theorem mk1 {l : Launch} {D : va_G} {ia : Nat → ClassId} {d : Nat} : Mk l D ia (d + 2) 12 76 mX1_init (.inr (1, [.int 0, .null, .null])) (fun n => po1 n) (fun n => bl1 ia n) := by
  refine Mk.start (by decide +kernel) rfl rfl (Nat.le_of_ble_eq_true rfl) (fun b n i0 es0 C hC => ?_)
  refine Y_aload_n hC dX1_init_0 rfl rfl ?_
  refine Y_objInit hC oiRX1 oiI oiC dX1_init_1 ?_
  refine Y_aload_n hC dX1_init_4 rfl rfl ?_
  refine Y_new hC nkRX1_7 (Nat.le_of_ble_eq_true rfl) (Nat.le_of_ble_eq_true rfl) dX1_init_5 ?_
  refine Y_dup hC dX1_init_8 rfl ?_
  refine Y_call (n1 := (n + 1)) (mc1 := 7) (ms1 := 40) (j := 0) hC mk0 rfl (by decide +kernel) (wlm 82 (by decide +kernel) (by decide +kernel)) (wlm 55 (by decide +kernel) (by decide +kernel)) (wlm 83 (by decide +kernel) (by decide +kernel)) ⟨⟨by decide +kernel, by decide +kernel, by decide +kernel⟩, by decide⟩ rfl rfl rfl ⟨⟨Nat.le_of_ble_eq_true rfl, rfl⟩, Nat.le_of_ble_eq_true rfl⟩ (Nat.le_of_ble_eq_true rfl) dX1_init_9 ?_
  show Y l D C 12 76 b n es0 i0 (yQ D b n es0 i0 (po1 n) (bl1 ia n)) 12 [(0, .ref (b + i0))] [.ref (n + 0), .ref (b + i0)] (.inr (1, [.int 0, .null, .null])) [.inr (0, [.int 0, .ref (n + 1), .ref (n + 2), .ref (n + 3), .int 0, .ref (n + 4), .ref (n + 5), .ref (n + 6), .ref (n + 7), .int 0, .int 0, .int 0, .int 0, .int 0]), yr (ia 0) 8, yr (ia 0) 8, yr (ia 0) 8, yr (ia 0) 4, yr (ia 0) 4, yr (ia 0) 4, yr (ia 0) 4] 54
  refine Y_put hC pfRX1_10 rfl rfl (Nat.le_of_ble_eq_true rfl) dX1_init_12 ?_
  show Y l D C 12 76 b n es0 i0 (yQ D b n es0 i0 (po1 n) (bl1 ia n)) 15 [(0, .ref (b + i0))] [] (.inr (1, [.int 0, .ref n, .null])) [.inr (0, [.int 0, .ref (n + 1), .ref (n + 2), .ref (n + 3), .int 0, .ref (n + 4), .ref (n + 5), .ref (n + 6), .ref (n + 7), .int 0, .int 0, .int 0, .int 0, .int 0]), yr (ia 0) 8, yr (ia 0) 8, yr (ia 0) 8, yr (ia 0) 4, yr (ia 0) 4, yr (ia 0) 4, yr (ia 0) 4] 54
  refine Y_aload_n hC dX1_init_15 rfl rfl ?_
  refine Y_new hC nkRX1_16 (Nat.le_of_ble_eq_true rfl) (Nat.le_of_ble_eq_true rfl) dX1_init_16 ?_
  refine Y_dup hC dX1_init_19 rfl ?_
  refine Y_call (n1 := (n + 9)) (mc1 := 3) (ms1 := 18) (j := 8) hC mk6 rfl (by decide +kernel) (wlm 217 (by decide +kernel) (by decide +kernel)) (wlm 58 (by decide +kernel) (by decide +kernel)) (wlm 218 (by decide +kernel) (by decide +kernel)) ⟨⟨by decide +kernel, by decide +kernel, by decide +kernel⟩, by decide⟩ rfl rfl rfl ⟨⟨Nat.le_of_ble_eq_true rfl, rfl⟩, Nat.le_of_ble_eq_true rfl⟩ (Nat.le_of_ble_eq_true rfl) dX1_init_20 ?_
  show Y l D C 12 76 b n es0 i0 (yQ D b n es0 i0 (po1 n) (bl1 ia n)) 23 [(0, .ref (b + i0))] [.ref (n + 8), .ref (b + i0)] (.inr (1, [.int 0, .ref n, .null])) [.inr (0, [.int 0, .ref (n + 1), .ref (n + 2), .ref (n + 3), .int 0, .ref (n + 4), .ref (n + 5), .ref (n + 6), .ref (n + 7), .int 0, .int 0, .int 0, .int 0, .int 0]), yr (ia 0) 8, yr (ia 0) 8, yr (ia 0) 8, yr (ia 0) 4, yr (ia 0) 4, yr (ia 0) 4, yr (ia 0) 4, .inr (6, [.int 0, .ref (n + 9), .ref (n + 10), .ref (n + 11)]), yr (ia 0) 6, yr (ia 0) 6, yr (ia 0) 6] 76
  refine Y_put hC pfRX1_19 rfl rfl (Nat.le_of_ble_eq_true rfl) dX1_init_23 ?_
  show Y l D C 12 76 b n es0 i0 (yQ D b n es0 i0 (po1 n) (bl1 ia n)) 26 [(0, .ref (b + i0))] [] (.inr (1, [.int 0, .ref n, .ref (n + 8)])) [.inr (0, [.int 0, .ref (n + 1), .ref (n + 2), .ref (n + 3), .int 0, .ref (n + 4), .ref (n + 5), .ref (n + 6), .ref (n + 7), .int 0, .int 0, .int 0, .int 0, .int 0]), yr (ia 0) 8, yr (ia 0) 8, yr (ia 0) 8, yr (ia 0) 4, yr (ia 0) 4, yr (ia 0) 4, yr (ia 0) 4, .inr (6, [.int 0, .ref (n + 9), .ref (n + 10), .ref (n + 11)]), yr (ia 0) 6, yr (ia 0) 6, yr (ia 0) 6] 76
  exact Y_ret hC dX1_init_26 rfl rfl rfl rfl
