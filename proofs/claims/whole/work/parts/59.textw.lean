section TXW
variable {l : Launch} {ad : ZA} {D : va_G} {ia : Nat → ClassId} {d : Nat} {s : ZS}
theorem ev_J3n {x y : Int32} (h0 : ¬ x < 0) (h1 : x < y) : Ev l ad D ia d mJ3_checkIndex_8e157 [.int x, .int y, .null] s (some (.int x)) s := by
  refine Ev.start (by decide +kernel) (Nat.le_of_ble_eq_true rfl) (fun C hC => ?_)
  refine Z_iload_n hC dJ3_checkIndex_8e157_0 rfl rfl ?_
  refine Z_if_lt (tgt := 9) hC dJ3_checkIndex_8e157_1 (by decide) (fun c => absurd c h0) (fun _ => ?_)
  refine Z_iload_n hC dJ3_checkIndex_8e157_4 rfl rfl ?_
  refine Z_iload_n hC dJ3_checkIndex_8e157_5 rfl rfl ?_
  refine Z_icmp_lt (tgt := 16) hC dJ3_checkIndex_8e157_6 (by decide) (fun _ => ?_) (fun c => absurd h1 c)
  refine Z_iload_n hC dJ3_checkIndex_8e157_16 rfl rfl ?_
  exact Z_iret hC dJ3_checkIndex_8e157_17 rfl rfl
theorem ev_J3r {x y : Int32} {a : Nat} (h0 : ¬ x < 0) (h1 : x < y) : Ev l ad D ia d mJ3_checkIndex_8e157 [.int x, .int y, .ref a] s (some (.int x)) s := by
  refine Ev.start (by decide +kernel) (Nat.le_of_ble_eq_true rfl) (fun C hC => ?_)
  refine Z_iload_n hC dJ3_checkIndex_8e157_0 rfl rfl ?_
  refine Z_if_lt (tgt := 9) hC dJ3_checkIndex_8e157_1 (by decide) (fun c => absurd c h0) (fun _ => ?_)
  refine Z_iload_n hC dJ3_checkIndex_8e157_4 rfl rfl ?_
  refine Z_iload_n hC dJ3_checkIndex_8e157_5 rfl rfl ?_
  refine Z_icmp_lt (tgt := 16) hC dJ3_checkIndex_8e157_6 (by decide) (fun _ => ?_) (fun c => absurd h1 c)
  refine Z_iload_n hC dJ3_checkIndex_8e157_16 rfl rfl ?_
  exact Z_iret hC dJ3_checkIndex_8e157_17 rfl rfl
theorem ev_J0c {x y : Int32} (h0 : ¬ x < 0) (h1 : x < y) : Ev l ad D ia (d + 1) mJ0_checkIndex_df160 [.int x, .int y] s none s := by
  refine Ev.start (by decide +kernel) (Nat.le_of_ble_eq_true rfl) (fun C hC => ?_)
  refine Z_iload_n hC dJ0_checkIndex_df160_0 rfl rfl ?_
  refine Z_iload_n hC dJ0_checkIndex_df160_1 rfl rfl ?_
  refine Z_getsF hC fkJ0_1053 dJ0_checkIndex_df160_2 ?_ (fun a => ?_)
  · refine Z_callS (As := [.int x, .int y, .null]) (rest := []) hC (ev_J3n h0 h1) csJ0_1059 rfl rfl (Nat.le_of_ble_eq_true rfl) dJ0_checkIndex_df160_5 ?_
    refine Z_pop hC dJ0_checkIndex_df160_8 rfl ?_
    exact Z_vret hC dJ0_checkIndex_df160_9 rfl rfl
  · refine Z_callS (As := [.int x, .int y, .ref a]) (rest := []) hC (ev_J3r h0 h1) csJ0_1059 rfl rfl (Nat.le_of_ble_eq_true rfl) dJ0_checkIndex_df160_5 ?_
    refine Z_pop hC dJ0_checkIndex_df160_8 rfl ?_
    exact Z_vret hC dJ0_checkIndex_df160_9 rfl rfl
theorem sr0 (x : Int32) : x >>> ((0 : Int32) &&& 31) = x := by
  have e : ((0 : Int32) &&& 31) = 0 := by decide
  rw [e]
  simp
theorem ev_length {i : Nat} (hi : i < 6) : Ev l ad D ia (d + 1) mJ0_length_8abf5 [.ref (ad 30 i)] s (some (.int (nI (zsl.getD i 0)))) s :=
  eJ0_length_8abf5 hi ⟨0, s, eJ0_coder_7d493 hi ⟨fun h => absurd h (by decide), fun _ => ⟨rfl, rfl, rfl⟩⟩, by rw [sr0], rfl⟩
theorem chV_ok : ∀ i, i < 6 → (List.range (zsl.getD i 0)).all (fun j => decide ((((chV i j) &&& 255).toUInt32 % 65536).toInt32 = chV i j)) = true := by decide +kernel
theorem ev_charAt {i j : Nat} (hi : i < 6) (hj : j < zsl.getD i 0) : Ev l ad D ia (d + 3) mJ0_charAt_5068e [.ref (ad 30 i), .int (nI j)] s (some (.int (chV i j))) s := by
  have hz : zsl.getD i 0 ≤ 6 := (by decide : ∀ i, i < 6 → zsl.getD i 0 ≤ 6) i hi
  have hv : (((chV i j) &&& 255).toUInt32 % 65536).toInt32 = chV i j := of_decide_eq_true (List.all_eq_true.mp (chV_ok i hi) j (List.mem_range.mpr hj))
  have hn : narrow .char (.int (chV i j)) = .int (chV i j) := by
    rw [← hv]
    exact pk_nc _
  have hc : Ev l ad D ia (d + 2) mJ1_charAt_3b067 [.ref (ad 31 i), .int (nI j)] s (some (.int (chV i j))) s := by
    refine eJ1_charAt_3b067 hi ⟨s, ev_J0c (nI_pos (by omega)) (nI_lt hj (by omega)), vp_in_nI hj (by omega), pk_nc _, ?_, rfl⟩
    rw [nI_clamp (by omega)]
    have : (zsb.getD i []).getD j 0 = chV i j := rfl
    rw [this, hv]
  exact eJ0_charAt_5068e hi ⟨1, s, eJ0_isLatin1_aae02 hi ⟨fun h => absurd h (by decide), fun _ => ⟨fun h => absurd rfl h, fun _ => ⟨rfl, rfl⟩⟩⟩, fun h => absurd h (by decide), fun _ => ⟨_, _, hc, hn, rfl, rfl⟩⟩
theorem ev_isWord {tl : Nat} {tb : Nat → Int32} {t : Nat × Nat × Nat} {i : Nat} (hi : i < 6) (h160 : tl ≤ 160) (ho : okT tl (.inr t)) (h2 : (s 16).1 2 = nI t.1) (h3 : (s 16).1 3 = nI t.2.1) (h4 : (s 16).1 4 = nI t.2.2) (hb : ∀ q, q < tl → (s 16).2.2 0 q = tb q) : Ev l ad D ia (d + 4) mX7_isWord [.ref (ad 16 0), .ref (ad 30 i)] s (some (.int (b1 (decide (t.1 = 1) && wd tb t i)))) s := by
  have hz : zsl.getD i 0 ≤ 6 := (by decide : ∀ i, i < 6 → zsl.getD i 0 ≤ 6) i hi
  have ht3 := ho.1
  have hle := ho.2.1
  have htl := ho.2.2.1
  refine eX7_isWord hi (fun C hC => ⟨fun h => ⟨?_, rfl⟩, fun h => ⟨_, s, ev_length hi, fun e => ?_, fun e => ⟨?_, rfl⟩⟩⟩)
  · have c : ¬ t.1 = 1 := fun q => h (by rw [h2, q]; rfl)
    rw [decide_eq_false c]
    rfl
  · have c : t.1 = 1 := by
      rw [h2] at h
      exact (nI_eq (a := t.1) (b := 1) (by omega) (by omega)).mp h
    rw [h3, h4, pk_sub hle] at e
    have c2 : t.2.2 - t.2.1 = zsl.getD i 0 := (nI_eq (by omega) (by omega)).mp e
    have ew : (decide (t.1 = 1) && wd tb t i) = wdL tb t.2.1 i (zsl.getD i 0) 0 := by
      unfold wd
      rw [decide_eq_true c, decide_eq_true c2, Bool.true_and, Bool.true_and]
    rw [ew]
    have lp : ∀ (k j : Nat), j + k = zsl.getD i 0 → Z l ad D ia C (some (.int (b1 (wdL tb t.2.1 i k j)))) s 28 [(0, .ref (ad 16 0)), (1, .ref (ad 30 i)), (2, .int (nI j))] [] s := by
      intro k
      induction k with
      | zero =>
        intro j hj
        exact bX7_isWord_28 hi hC ⟨_, s, ev_length hi, fun _ => ⟨rfl, rfl⟩, fun h => absurd (nI_le (by omega) (by omega)) h⟩
      | succ k ih =>
        intro j hj
        have ej : (s 16).1 3 + nI j = nI (t.2.1 + j) := by rw [h3, nI_add]
        refine bX7_isWord_28 hi hC ⟨_, s, ev_length hi, fun h => absurd h (nI_ge (by omega) (by omega)), fun _ => ?_⟩
        rw [ej, nI_clamp (by omega), hb _ (by omega)]
        refine ⟨vp_in_nI (by omega) (by omega), _, s, ev_charAt hi (j := j) (by omega), fun q => ?_, fun q => ⟨?_, rfl⟩⟩
        · have e2 : wdL tb t.2.1 i (k + 1) j = wdL tb t.2.1 i k (j + 1) := by
            show (decide (tb (t.2.1 + j) = chV i j) && _) = _
            rw [decide_eq_true q, Bool.true_and]
          rw [e2, nI_1]
          exact ih (j + 1) (by omega)
        · have e2 : wdL tb t.2.1 i (k + 1) j = false := by
            show (decide (tb (t.2.1 + j) = chV i j) && _) = _
            rw [decide_eq_false q, Bool.false_and]
          rw [e2]
          rfl
    exact lp (zsl.getD i 0) 0 (by omega)
  · rw [h3, h4, pk_sub hle] at e
    have c2 : ¬ t.2.2 - t.2.1 = zsl.getD i 0 := fun q => e (by rw [q])
    have ew : (decide (t.1 = 1) && wd tb t i) = false := by
      unfold wd
      rw [decide_eq_false c2, Bool.false_and, Bool.and_false]
    rw [ew]
    rfl
end TXW
