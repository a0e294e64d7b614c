/-! MAKING: what links the constructors (laid by wip/gmake.py) -/
abbrev yr (cA : ClassId) (k : Nat) : va_E := .inl (cA, k, .inl (fun _ => 0))
def yq (h : Nat) : Nat → Option Nat := fun j => if j < 10 then some (h + 1 + j) else none
theorem oiI : Cond.instanceMethod Lib.objectInit ∈ WL := (wlm 77 (by decide +kernel) (by decide +kernel))
theorem oiC : Cond.code Lib.objectInit ⟨#[0xb1]⟩ 1 none ∈ WL := (wlm 78 (by decide +kernel) (by decide +kernel))
theorem ac_int : Cond.arrayClass (newarray.typeOf .int) ∈ WL := (wlm 153 (by decide +kernel) (by decide +kernel))
theorem ac_byte : Cond.arrayClass (newarray.typeOf .byte) ∈ WL := (wlm 187 (by decide +kernel) (by decide +kernel))
theorem ac_boolean : Cond.arrayClass (newarray.typeOf .boolean) ∈ WL := (wlm 980 (by decide +kernel) (by decide +kernel))
theorem clMN : Cond.classLink RX2 9 "[[I" ∈ WL := (wlm 265 (by decide +kernel) (by decide +kernel))
theorem oiRX0 : Cond.methodLink RX0 3 Lib.objectInit ∈ WL := (wlm 84 (by decide +kernel) (by decide +kernel))
theorem pfRX0_9 : ypk RX0 9 0 1 (.array .int) := ⟨_, tyX0, rfl, inWX0, by decide, (wlm 88 (by decide +kernel) (by decide +kernel)), tyX0_ok, nmX0, Or.inr ⟨rfl, rfl⟩, tyX0_ok 1 (by decide)⟩
theorem pfRX0_15 : ypk RX0 15 0 2 (.array .int) := ⟨_, tyX0, rfl, inWX0, by decide, (wlm 90 (by decide +kernel) (by decide +kernel)), tyX0_ok, nmX0, Or.inr ⟨rfl, rfl⟩, tyX0_ok 2 (by decide)⟩
theorem pfRX0_18 : ypk RX0 18 0 3 (.array .int) := ⟨_, tyX0, rfl, inWX0, by decide, (wlm 93 (by decide +kernel) (by decide +kernel)), tyX0_ok, nmX0, Or.inr ⟨rfl, rfl⟩, tyX0_ok 3 (by decide)⟩
theorem pfRX0_21 : ypk RX0 21 0 5 (.array .int) := ⟨_, tyX0, rfl, inWX0, by decide, (wlm 100 (by decide +kernel) (by decide +kernel)), tyX0_ok, nmX0, Or.inr ⟨rfl, rfl⟩, tyX0_ok 5 (by decide)⟩
theorem pfRX0_24 : ypk RX0 24 0 6 (.array .int) := ⟨_, tyX0, rfl, inWX0, by decide, (wlm 102 (by decide +kernel) (by decide +kernel)), tyX0_ok, nmX0, Or.inr ⟨rfl, rfl⟩, tyX0_ok 6 (by decide)⟩
theorem pfRX0_27 : ypk RX0 27 0 7 (.array .int) := ⟨_, tyX0, rfl, inWX0, by decide, (wlm 107 (by decide +kernel) (by decide +kernel)), tyX0_ok, nmX0, Or.inr ⟨rfl, rfl⟩, tyX0_ok 7 (by decide)⟩
theorem pfRX0_30 : ypk RX0 30 0 8 (.array .int) := ⟨_, tyX0, rfl, inWX0, by decide, (wlm 109 (by decide +kernel) (by decide +kernel)), tyX0_ok, nmX0, Or.inr ⟨rfl, rfl⟩, tyX0_ok 8 (by decide)⟩
theorem oiRX6 : Cond.methodLink RX6 3 Lib.objectInit ∈ WL := (wlm 219 (by decide +kernel) (by decide +kernel))
theorem pfRX6_9 : ypk RX6 9 6 1 (.array .int) := ⟨_, tyX6, rfl, inWX6, by decide, (wlm 222 (by decide +kernel) (by decide +kernel)), tyX6_ok, nmX6, Or.inr ⟨rfl, rfl⟩, tyX6_ok 1 (by decide)⟩
theorem pfRX6_15 : ypk RX6 15 6 2 (.array .int) := ⟨_, tyX6, rfl, inWX6, by decide, (wlm 223 (by decide +kernel) (by decide +kernel)), tyX6_ok, nmX6, Or.inr ⟨rfl, rfl⟩, tyX6_ok 2 (by decide)⟩
theorem pfRX6_18 : ypk RX6 18 6 3 (.array .int) := ⟨_, tyX6, rfl, inWX6, by decide, (wlm 224 (by decide +kernel) (by decide +kernel)), tyX6_ok, nmX6, Or.inr ⟨rfl, rfl⟩, tyX6_ok 3 (by decide)⟩
theorem oiRX7 : Cond.methodLink RX7 3 Lib.objectInit ∈ WL := (wlm 165 (by decide +kernel) (by decide +kernel))
theorem pfRX7_9 : ypk RX7 9 7 0 (.array .byte) := ⟨_, tyX7, rfl, inWX7, by decide, (wlm 166 (by decide +kernel) (by decide +kernel)), tyX7_ok, nmX7, Or.inr ⟨rfl, rfl⟩, tyX7_ok 0 (by decide)⟩
theorem oiRX5 : Cond.methodLink RX5 3 Lib.objectInit ∈ WL := (wlm 299 (by decide +kernel) (by decide +kernel))
theorem pfRX5_9 : ypk RX5 9 5 0 .int := ⟨_, tyX5, rfl, inWX5, by decide, (wlm 300 (by decide +kernel) (by decide +kernel)), tyX5_ok, nmX5, Or.inl rfl, tyX5_ok 0 (by decide)⟩
theorem pfRX5_15 : ypk RX5 15 5 2 (.array .int) := ⟨_, tyX5, rfl, inWX5, by decide, (wlm 304 (by decide +kernel) (by decide +kernel)), tyX5_ok, nmX5, Or.inr ⟨rfl, rfl⟩, tyX5_ok 2 (by decide)⟩
theorem oiRX3 : Cond.methodLink RX3 3 Lib.objectInit ∈ WL := (wlm 159 (by decide +kernel) (by decide +kernel))
theorem nkRX3_9 : ynk RX3 9 7 5 [.null, .int 0, .int 0, .int 0, .int 0] := ⟨_, tyX7, rfl, rfl, inWX7, tyX7_ok, fun j hj => match j, hj with | 0, _ => rfl | 1, _ => rfl | 2, _ => rfl | 3, _ => rfl | 4, _ => rfl | j + 5, h => absurd h (by simp), (wlm 160 (by decide +kernel) (by decide +kernel)), (wlm 161 (by decide +kernel) (by decide +kernel)), (wlm 57 (by decide +kernel) (by decide +kernel))⟩
theorem pfRX3_12 : ypk RX3 12 3 4 (.object "UpperSteps$Tape") := ⟨_, tyX3, rfl, inWX3, by decide, (wlm 197 (by decide +kernel) (by decide +kernel)), tyX3_ok, nmX3, Or.inr ⟨rfl, rfl⟩, tyX3_ok 4 (by decide)⟩
theorem nkRX3_18 : ynk RX3 18 0 14 [.int 0, .null, .null, .null, .int 0, .null, .null, .null, .null, .int 0, .int 0, .int 0, .int 0, .int 0] := ⟨_, tyX0, rfl, rfl, inWX0, tyX0_ok, fun j hj => match j, hj with | 0, _ => rfl | 1, _ => rfl | 2, _ => rfl | 3, _ => rfl | 4, _ => rfl | 5, _ => rfl | 6, _ => rfl | 7, _ => rfl | 8, _ => rfl | 9, _ => rfl | 10, _ => rfl | 11, _ => rfl | 12, _ => rfl | 13, _ => rfl | j + 14, h => absurd h (by simp), (wlm 188 (by decide +kernel) (by decide +kernel)), (wlm 80 (by decide +kernel) (by decide +kernel)), (wlm 55 (by decide +kernel) (by decide +kernel))⟩
theorem pfRX3_21 : ypk RX3 21 3 5 (.object "UpperSteps$House") := ⟨_, tyX3, rfl, inWX3, by decide, (wlm 199 (by decide +kernel) (by decide +kernel)), tyX3_ok, nmX3, Or.inr ⟨rfl, rfl⟩, tyX3_ok 5 (by decide)⟩
theorem oiRX4 : Cond.methodLink RX4 3 Lib.objectInit ∈ WL := (wlm 243 (by decide +kernel) (by decide +kernel))
theorem pfRX4_9 : ypk RX4 9 4 1 (.array .int) := ⟨_, tyX4, rfl, inWX4, by decide, (wlm 247 (by decide +kernel) (by decide +kernel)), tyX4_ok, nmX4, Or.inr ⟨rfl, rfl⟩, tyX4_ok 1 (by decide)⟩
theorem pfRX4_15 : ypk RX4 15 4 2 (.array .int) := ⟨_, tyX4, rfl, inWX4, by decide, (wlm 248 (by decide +kernel) (by decide +kernel)), tyX4_ok, nmX4, Or.inr ⟨rfl, rfl⟩, tyX4_ok 2 (by decide)⟩
theorem nkRX4_18 : ynk RX4 18 0 14 [.int 0, .null, .null, .null, .int 0, .null, .null, .null, .null, .int 0, .int 0, .int 0, .int 0, .int 0] := ⟨_, tyX0, rfl, rfl, inWX0, tyX0_ok, fun j hj => match j, hj with | 0, _ => rfl | 1, _ => rfl | 2, _ => rfl | 3, _ => rfl | 4, _ => rfl | 5, _ => rfl | 6, _ => rfl | 7, _ => rfl | 8, _ => rfl | 9, _ => rfl | 10, _ => rfl | 11, _ => rfl | 12, _ => rfl | 13, _ => rfl | j + 14, h => absurd h (by simp), (wlm 244 (by decide +kernel) (by decide +kernel)), (wlm 80 (by decide +kernel) (by decide +kernel)), (wlm 55 (by decide +kernel) (by decide +kernel))⟩
theorem pfRX4_21 : ypk RX4 21 4 3 (.object "UpperSteps$House") := ⟨_, tyX4, rfl, inWX4, by decide, (wlm 249 (by decide +kernel) (by decide +kernel)), tyX4_ok, nmX4, Or.inr ⟨rfl, rfl⟩, tyX4_ok 3 (by decide)⟩
theorem oiRX2 : Cond.methodLink RX2 3 Lib.objectInit ∈ WL := (wlm 264 (by decide +kernel) (by decide +kernel))
theorem pfRX2_11 : ypk RX2 11 2 0 (.array (.array .int)) := ⟨_, tyX2, rfl, inWX2, by decide, (wlm 267 (by decide +kernel) (by decide +kernel)), tyX2_ok, nmX2, Or.inr ⟨rfl, rfl⟩, tyX2_ok 0 (by decide)⟩
theorem pfRX2_16 : ypk RX2 16 2 1 (.array .int) := ⟨_, tyX2, rfl, inWX2, by decide, (wlm 268 (by decide +kernel) (by decide +kernel)), tyX2_ok, nmX2, Or.inr ⟨rfl, rfl⟩, tyX2_ok 1 (by decide)⟩
theorem oiRX1 : Cond.methodLink RX1 1 Lib.objectInit ∈ WL := (wlm 278 (by decide +kernel) (by decide +kernel))
theorem nkRX1_7 : ynk RX1 7 0 14 [.int 0, .null, .null, .null, .int 0, .null, .null, .null, .null, .int 0, .int 0, .int 0, .int 0, .int 0] := ⟨_, tyX0, rfl, rfl, inWX0, tyX0_ok, fun j hj => match j, hj with | 0, _ => rfl | 1, _ => rfl | 2, _ => rfl | 3, _ => rfl | 4, _ => rfl | 5, _ => rfl | 6, _ => rfl | 7, _ => rfl | 8, _ => rfl | 9, _ => rfl | 10, _ => rfl | 11, _ => rfl | 12, _ => rfl | 13, _ => rfl | j + 14, h => absurd h (by simp), (wlm 279 (by decide +kernel) (by decide +kernel)), (wlm 80 (by decide +kernel) (by decide +kernel)), (wlm 55 (by decide +kernel) (by decide +kernel))⟩
theorem pfRX1_10 : ypk RX1 10 1 1 (.object "UpperSteps$House") := ⟨_, tyX1, rfl, inWX1, by decide, (wlm 284 (by decide +kernel) (by decide +kernel)), tyX1_ok, nmX1, Or.inr ⟨rfl, rfl⟩, tyX1_ok 1 (by decide)⟩
theorem nkRX1_16 : ynk RX1 16 6 4 [.int 0, .null, .null, .null] := ⟨_, tyX6, rfl, rfl, inWX6, tyX6_ok, fun j hj => match j, hj with | 0, _ => rfl | 1, _ => rfl | 2, _ => rfl | 3, _ => rfl | j + 4, h => absurd h (by simp), (wlm 281 (by decide +kernel) (by decide +kernel)), (wlm 215 (by decide +kernel) (by decide +kernel)), (wlm 58 (by decide +kernel) (by decide +kernel))⟩
theorem pfRX1_19 : ypk RX1 19 1 2 (.object "UpperSteps$Sightings") := ⟨_, tyX1, rfl, inWX1, by decide, (wlm 286 (by decide +kernel) (by decide +kernel)), tyX1_ok, nmX1, Or.inr ⟨rfl, rfl⟩, tyX1_ok 2 (by decide)⟩
theorem oiRX8 : Cond.methodLink RX8 1 Lib.objectInit ∈ WL := (wlm 76 (by decide +kernel) (by decide +kernel))
theorem nkRX8_7 : ynk RX8 7 0 14 [.int 0, .null, .null, .null, .int 0, .null, .null, .null, .null, .int 0, .int 0, .int 0, .int 0, .int 0] := ⟨_, tyX0, rfl, rfl, inWX0, tyX0_ok, fun j hj => match j, hj with | 0, _ => rfl | 1, _ => rfl | 2, _ => rfl | 3, _ => rfl | 4, _ => rfl | 5, _ => rfl | 6, _ => rfl | 7, _ => rfl | 8, _ => rfl | 9, _ => rfl | 10, _ => rfl | 11, _ => rfl | 12, _ => rfl | 13, _ => rfl | j + 14, h => absurd h (by simp), (wlm 79 (by decide +kernel) (by decide +kernel)), (wlm 80 (by decide +kernel) (by decide +kernel)), (wlm 55 (by decide +kernel) (by decide +kernel))⟩
theorem pfRX8_10 : ypk RX8 10 8 0 (.object "UpperSteps$House") := ⟨_, tyX8, rfl, inWX8, by decide, (wlm 313 (by decide +kernel) (by decide +kernel)), tyX8_ok, nmX8, Or.inr ⟨rfl, rfl⟩, tyX8_ok 0 (by decide)⟩
theorem pfRX8_16 : ypk RX8 16 8 1 (.object "UpperSteps$House") := ⟨_, tyX8, rfl, inWX8, by decide, (wlm 314 (by decide +kernel) (by decide +kernel)), tyX8_ok, nmX8, Or.inr ⟨rfl, rfl⟩, tyX8_ok 1 (by decide)⟩
theorem nkRX8_19 : ynk RX8 19 3 6 [.int 0, .int 0, .int 0, .int 0, .null, .null] := ⟨_, tyX3, rfl, rfl, inWX3, tyX3_ok, fun j hj => match j, hj with | 0, _ => rfl | 1, _ => rfl | 2, _ => rfl | 3, _ => rfl | 4, _ => rfl | 5, _ => rfl | j + 6, h => absurd h (by simp), (wlm 154 (by decide +kernel) (by decide +kernel)), (wlm 155 (by decide +kernel) (by decide +kernel)), (wlm 56 (by decide +kernel) (by decide +kernel))⟩
theorem pfRX8_22 : ypk RX8 22 8 2 (.object "UpperSteps$Parser") := ⟨_, tyX8, rfl, inWX8, by decide, (wlm 315 (by decide +kernel) (by decide +kernel)), tyX8_ok, nmX8, Or.inr ⟨rfl, rfl⟩, tyX8_ok 2 (by decide)⟩
theorem nkRX8_26 : ynk RX8 26 6 4 [.int 0, .null, .null, .null] := ⟨_, tyX6, rfl, rfl, inWX6, tyX6_ok, fun j hj => match j, hj with | 0, _ => rfl | 1, _ => rfl | 2, _ => rfl | 3, _ => rfl | j + 4, h => absurd h (by simp), (wlm 214 (by decide +kernel) (by decide +kernel)), (wlm 215 (by decide +kernel) (by decide +kernel)), (wlm 58 (by decide +kernel) (by decide +kernel))⟩
theorem pfRX8_29 : ypk RX8 29 8 4 (.object "UpperSteps$Sightings") := ⟨_, tyX8, rfl, inWX8, by decide, (wlm 317 (by decide +kernel) (by decide +kernel)), tyX8_ok, nmX8, Or.inr ⟨rfl, rfl⟩, tyX8_ok 4 (by decide)⟩
theorem pfRX8_35 : ypk RX8 35 8 5 (.array (.object "UpperSteps$Image")) := ⟨_, tyX8, rfl, inWX8, by decide, (wlm 318 (by decide +kernel) (by decide +kernel)), tyX8_ok, nmX8, Or.inr ⟨rfl, rfl⟩, tyX8_ok 5 (by decide)⟩
theorem pfRX8_41 : ypk RX8 41 8 6 (.array (.object "UpperSteps$Sheet")) := ⟨_, tyX8, rfl, inWX8, by decide, (wlm 319 (by decide +kernel) (by decide +kernel)), tyX8_ok, nmX8, Or.inr ⟨rfl, rfl⟩, tyX8_ok 6 (by decide)⟩
theorem pfRX8_45 : ypk RX8 45 8 8 (.array .int) := ⟨_, tyX8, rfl, inWX8, by decide, (wlm 321 (by decide +kernel) (by decide +kernel)), tyX8_ok, nmX8, Or.inr ⟨rfl, rfl⟩, tyX8_ok 8 (by decide)⟩
theorem pfRX8_49 : ypk RX8 49 8 9 (.array .int) := ⟨_, tyX8, rfl, inWX8, by decide, (wlm 322 (by decide +kernel) (by decide +kernel)), tyX8_ok, nmX8, Or.inr ⟨rfl, rfl⟩, tyX8_ok 9 (by decide)⟩
theorem nkRX8_52 : ynk RX8 52 4 4 [.int 0, .null, .null, .null] := ⟨_, tyX4, rfl, rfl, inWX4, tyX4_ok, fun j hj => match j, hj with | 0, _ => rfl | 1, _ => rfl | 2, _ => rfl | 3, _ => rfl | j + 4, h => absurd h (by simp), (wlm 238 (by decide +kernel) (by decide +kernel)), (wlm 239 (by decide +kernel) (by decide +kernel)), (wlm 59 (by decide +kernel) (by decide +kernel))⟩
theorem pfRX8_55 : ypk RX8 55 8 10 (.object "UpperSteps$RunningSteps") := ⟨_, tyX8, rfl, inWX8, by decide, (wlm 323 (by decide +kernel) (by decide +kernel)), tyX8_ok, nmX8, Or.inr ⟨rfl, rfl⟩, tyX8_ok 10 (by decide)⟩
theorem nkRX8_59 : ynk RX8 59 2 2 [.null, .null] := ⟨_, tyX2, rfl, rfl, inWX2, tyX2_ok, fun j hj => match j, hj with | 0, _ => rfl | 1, _ => rfl | j + 2, h => absurd h (by simp), (wlm 259 (by decide +kernel) (by decide +kernel)), (wlm 260 (by decide +kernel) (by decide +kernel)), (wlm 60 (by decide +kernel) (by decide +kernel))⟩
theorem pfRX8_62 : ypk RX8 62 8 11 (.object "UpperSteps$Outlook") := ⟨_, tyX8, rfl, inWX8, by decide, (wlm 324 (by decide +kernel) (by decide +kernel)), tyX8_ok, nmX8, Or.inr ⟨rfl, rfl⟩, tyX8_ok 11 (by decide)⟩
theorem nkRX8_33 : ynk RX8 33 1 3 [.int 0, .null, .null] := ⟨_, tyX1, rfl, rfl, inWX1, tyX1_ok, fun j hj => match j, hj with | 0, _ => rfl | 1, _ => rfl | 2, _ => rfl | j + 3, h => absurd h (by simp), (wlm 234 (by decide +kernel) (by decide +kernel)), (wlm 274 (by decide +kernel) (by decide +kernel)), (wlm 61 (by decide +kernel) (by decide +kernel))⟩
theorem nkRX8_39 : ynk RX8 39 5 3 [.int 0, .int 0, .null] := ⟨_, tyX5, rfl, rfl, inWX5, tyX5_ok, fun j hj => match j, hj with | 0, _ => rfl | 1, _ => rfl | 2, _ => rfl | j + 3, h => absurd h (by simp), (wlm 236 (by decide +kernel) (by decide +kernel)), (wlm 295 (by decide +kernel) (by decide +kernel)), (wlm 62 (by decide +kernel) (by decide +kernel))⟩
theorem oiRX9 : Cond.methodLink RX9 1 Lib.objectInit ∈ WL := (wlm 868 (by decide +kernel) (by decide +kernel))
theorem pfRX9_7 : ypk RX9 7 9 0 (.array .int) := ⟨_, tyX9, rfl, inWX9, by decide, (wlm 877 (by decide +kernel) (by decide +kernel)), tyX9_ok, nmX9, Or.inr ⟨rfl, rfl⟩, tyX9_ok 0 (by decide)⟩
theorem pfRX9_13 : ypk RX9 13 9 1 (.array .int) := ⟨_, tyX9, rfl, inWX9, by decide, (wlm 878 (by decide +kernel) (by decide +kernel)), tyX9_ok, nmX9, Or.inr ⟨rfl, rfl⟩, tyX9_ok 1 (by decide)⟩
theorem pfRX9_16 : ypk RX9 16 9 2 (.array .boolean) := ⟨_, tyX9, rfl, inWX9, by decide, (wlm 879 (by decide +kernel) (by decide +kernel)), tyX9_ok, nmX9, Or.inr ⟨rfl, rfl⟩, tyX9_ok 2 (by decide)⟩
theorem pfRX9_20 : ypk RX9 20 9 5 (.array .int) := ⟨_, tyX9, rfl, inWX9, by decide, (wlm 882 (by decide +kernel) (by decide +kernel)), tyX9_ok, nmX9, Or.inr ⟨rfl, rfl⟩, tyX9_ok 5 (by decide)⟩
theorem pfRX9_23 : ypk RX9 23 9 10 (.array .int) := ⟨_, tyX9, rfl, inWX9, by decide, (wlm 887 (by decide +kernel) (by decide +kernel)), tyX9_ok, nmX9, Or.inr ⟨rfl, rfl⟩, tyX9_ok 10 (by decide)⟩
theorem pfRX9_26 : ypk RX9 26 9 22 (.array .int) := ⟨_, tyX9, rfl, inWX9, by decide, (wlm 899 (by decide +kernel) (by decide +kernel)), tyX9_ok, nmX9, Or.inr ⟨rfl, rfl⟩, tyX9_ok 22 (by decide)⟩
theorem pfRX9_29 : ypk RX9 29 9 23 (.array .int) := ⟨_, tyX9, rfl, inWX9, by decide, (wlm 900 (by decide +kernel) (by decide +kernel)), tyX9_ok, nmX9, Or.inr ⟨rfl, rfl⟩, tyX9_ok 23 (by decide)⟩
theorem pfRX9_32 : ypk RX9 32 9 27 (.array .int) := ⟨_, tyX9, rfl, inWX9, by decide, (wlm 904 (by decide +kernel) (by decide +kernel)), tyX9_ok, nmX9, Or.inr ⟨rfl, rfl⟩, tyX9_ok 27 (by decide)⟩
theorem pfRX9_35 : ypk RX9 35 9 28 (.array .int) := ⟨_, tyX9, rfl, inWX9, by decide, (wlm 905 (by decide +kernel) (by decide +kernel)), tyX9_ok, nmX9, Or.inr ⟨rfl, rfl⟩, tyX9_ok 28 (by decide)⟩
theorem pfRX9_38 : ypk RX9 38 9 29 (.array .int) := ⟨_, tyX9, rfl, inWX9, by decide, (wlm 906 (by decide +kernel) (by decide +kernel)), tyX9_ok, nmX9, Or.inr ⟨rfl, rfl⟩, tyX9_ok 29 (by decide)⟩
theorem pfRX9_41 : ypk RX9 41 9 30 (.array .int) := ⟨_, tyX9, rfl, inWX9, by decide, (wlm 907 (by decide +kernel) (by decide +kernel)), tyX9_ok, nmX9, Or.inr ⟨rfl, rfl⟩, tyX9_ok 30 (by decide)⟩
theorem pfRX9_44 : ypk RX9 44 9 31 (.array .int) := ⟨_, tyX9, rfl, inWX9, by decide, (wlm 908 (by decide +kernel) (by decide +kernel)), tyX9_ok, nmX9, Or.inr ⟨rfl, rfl⟩, tyX9_ok 31 (by decide)⟩
theorem pfRX9_47 : ypk RX9 47 9 33 (.array .int) := ⟨_, tyX9, rfl, inWX9, by decide, (wlm 910 (by decide +kernel) (by decide +kernel)), tyX9_ok, nmX9, Or.inr ⟨rfl, rfl⟩, tyX9_ok 33 (by decide)⟩
section YM
variable {l : Launch} {D : va_G} {ia : Nat → ClassId} {C : ZC} {d mc ms b n i0 nL pc sl : Nat} {es0 nw nw1 : List va_E} {e0 e1 : va_E} {cc : ByteArray} {own : String} {V : List (Nat × Value)} {St : List Value} {Qc : Array Value → State → Outcome → State → Prop}
theorem yq_rf (h j : Nat) : va_rf (yq h j) = mnF h 10 j := by
  unfold yq mnF
  by_cases c : j < 10
  · rw [if_pos c, if_pos c]
    rfl
  · rw [if_neg c, if_neg c]
    rfl
theorem Y_multi (hC : Yok D ia C d mc ms cc nL own) {idx : Nat} (h1 : Cond.classLink own idx "[[I" ∈ WL) (hc : nw.length + 11 ≤ mc) (hs : sl + 850 ≤ ms) (dd : decode cc pc = .ok (.multianewarray idx 2, 4)) (kk : Y l D C mc ms b n es0 i0 Qc (pc + 4) V (.ref (n + nw.length) :: St) e0 (nw ++ [.inl (ia 5, 10, .inr (.inr (.inr (.inr (yq (n + nw.length)))))), yr (ia 0) 84, yr (ia 0) 84, yr (ia 0) 84, yr (ia 0) 84, yr (ia 0) 84, yr (ia 0) 84, yr (ia 0) 84, yr (ia 0) 84, yr (ia 0) 84, yr (ia 0) 84]) (sl + 850)) : Y l D C mc ms b n es0 i0 Qc pc V (.int 84 :: .int 10 :: St) e0 nw sl := by
  obtain ⟨p, e, R, s0, m, args, below, meth, c0⟩ := C
  obtain ⟨hx, hb, hml, hown, hts, hr, hlk, hR, hnm, hKK⟩ := hC
  intro H locs ls hw hS hl
  subst hR
  obtain ⟨⟨w1, w2⟩, w3, w4, w5, w6⟩ := id hw
  refine w_multi hx hb hown (hts _ h1) hKK.1 hKK.2.2.2.2 dd hc hs (fun H1 L z1 g1 g2 o1 hL => ?_)
  have kp : ∀ {q : Nat × va_E}, va_at D vwCl q H → va_at D vwCl q H1 := fun hq => hq.kept (o1 _ hq.lt)
  have hi : ∀ i, i < 10 → va_at D vwCl (n + nw.length + 1 + i, yr (ia 0) 84) H1 := fun i hi => by
    have := g2 i hi
    rw [w3] at this
    exact this
  have h0 : va_at D vwCl (n + nw.length, .inl (ia 5, 10, .inr (.inr (.inr (.inr (yq (n + nw.length))))))) H1 := by
    show H1[n + nw.length]? = some (vp_cell _ _)
    rw [w3] at g1
    rw [g1, vp_cell_q]
    congr 2
    funext j
    exact (yq_rf _ j).symm
  have hY : Yw D b n es0 i0 e0 (nw ++ [.inl (ia 5, 10, .inr (.inr (.inr (.inr (yq (n + nw.length)))))), yr (ia 0) 84, yr (ia 0) 84, yr (ia 0) 84, yr (ia 0) 84, yr (ia 0) 84, yr (ia 0) 84, yr (ia 0) 84, yr (ia 0) 84, yr (ia 0) 84, yr (ia 0) 84]) H1 := by
    refine ⟨⟨w1, w2⟩, by rw [z1, w3, List.length_append]; rfl, fun i e hi he => kp (w4 i e hi he), kp w5, fun i e he => ?_⟩
    by_cases c : i < nw.length
    · rw [List.getElem?_append_left c] at he
      exact kp (w6 i e he)
    · rw [List.getElem?_append_right (by omega)] at he
      have hz : i - nw.length < 11 := (List.getElem?_eq_some_iff.mp he).1
      rcases (show i - nw.length = 0 ∨ 1 ≤ i - nw.length by omega) with q | q
      · rw [q] at he
        cases he
        rw [show n + i = n + nw.length by omega]
        exact h0
      · have ei : e = yr (ia 0) 84 := by
          rcases (show i - nw.length = 1 ∨ i - nw.length = 2 ∨ i - nw.length = 3 ∨ i - nw.length = 4 ∨ i - nw.length = 5 ∨ i - nw.length = 6 ∨ i - nw.length = 7 ∨ i - nw.length = 8 ∨ i - nw.length = 9 ∨ i - nw.length = 10 by omega) with q2 | q2 | q2 | q2 | q2 | q2 | q2 | q2 | q2 | q2 <;> (rw [q2] at he; cases he; rfl)
        subst ei
        rw [show n + i = n + nw.length + 1 + (i - nw.length - 1) by omega]
        exact hi _ (by omega)
  have := kk H1 (locs ++ L) ls hY ⟨Nat.le_trans hS.1 (by rw [z1]; omega), fun x h1 h2 => (o1 x (Nat.lt_of_lt_of_le h1 hS.1)).trans (hS.2.1 x h1 h2), fun q hq => by
      rcases List.mem_append.mp hq with h | h
      · exact hS.2.2 q h
      · rw [hL q h, w3]
        show b ≤ n + nw.length
        omega⟩ hl
  rw [List.length_append] at this
  rw [w3]
  exact this
end YM
