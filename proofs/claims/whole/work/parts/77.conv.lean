/-! THE CELLS MADE ARE THE STORE (laid by wip/gconv.py) -/
def offT : List (List (Nat × Nat)) := [[(0, 0), (6, 32), (7, 33), (9, 34), (10, 35)], [(0, 1), (2, 2), (3, 3), (4, 4), (6, 5), (7, 6), (8, 7), (9, 8)], [(0, 9), (2, 10), (3, 11), (4, 12), (6, 13), (7, 14), (8, 15), (9, 16)], [(0, 20), (2, 21), (3, 22), (4, 23), (6, 24), (7, 25), (8, 26), (9, 27)], [(0, 39), (2, 40), (3, 41), (4, 42), (6, 43), (7, 44), (8, 45), (9, 46)], [(0, 61), (2, 62), (3, 63), (4, 64), (6, 65), (7, 66), (8, 67), (9, 68)], [(0, 74), (2, 75), (3, 76), (4, 77), (6, 78), (7, 79), (8, 80), (9, 81)], [(0, 28), (2, 29), (3, 30), (4, 31)], [(0, 69), (2, 70), (3, 71), (4, 72)], [(0, 82), (2, 83), (3, 84), (4, 85)], [(0, 60)], [(0, 73)], [(0, 86), (3, 87)], [(0, 88), (3, 89)], [(0, 90), (3, 91)], [(0, 92), (3, 93)], [(0, 18), (1, 19)], [(0, 17)], [(0, 36), (2, 37), (3, 38)], [(0, 47), (1, 48), (2, 59), (11, 49), (12, 50), (13, 51), (14, 52), (15, 53), (16, 54), (17, 55), (18, 56), (19, 57), (20, 58)], [(0, 94), (1, 95), (2, 96), (3, 97), (6, 98), (11, 99), (23, 100), (24, 101), (28, 102), (29, 103), (30, 104), (31, 105), (32, 106), (34, 107)]]
def offz (o k : Nat) : Nat := ((offT.getD o []).lookup k).getD 0
def invz : List (Nat × Nat) := [(0, 0), (1, 0), (1, 2), (1, 3), (1, 4), (1, 6), (1, 7), (1, 8), (1, 9), (2, 0), (2, 2), (2, 3), (2, 4), (2, 6), (2, 7), (2, 8), (2, 9), (17, 0), (16, 0), (16, 1), (3, 0), (3, 2), (3, 3), (3, 4), (3, 6), (3, 7), (3, 8), (3, 9), (7, 0), (7, 2), (7, 3), (7, 4), (0, 6), (0, 7), (0, 9), (0, 10), (18, 0), (18, 2), (18, 3), (4, 0), (4, 2), (4, 3), (4, 4), (4, 6), (4, 7), (4, 8), (4, 9), (19, 0), (19, 1), (19, 11), (19, 12), (19, 13), (19, 14), (19, 15), (19, 16), (19, 17), (19, 18), (19, 19), (19, 20), (19, 2), (10, 0), (5, 0), (5, 2), (5, 3), (5, 4), (5, 6), (5, 7), (5, 8), (5, 9), (8, 0), (8, 2), (8, 3), (8, 4), (11, 0), (6, 0), (6, 2), (6, 3), (6, 4), (6, 6), (6, 7), (6, 8), (6, 9), (9, 0), (9, 2), (9, 3), (9, 4), (12, 0), (12, 3), (13, 0), (13, 3), (14, 0), (14, 3), (15, 0), (15, 3), (20, 0), (20, 1), (20, 2), (20, 3), (20, 6), (20, 11), (20, 23), (20, 24), (20, 28), (20, 29), (20, 30), (20, 31), (20, 32), (20, 34)]
def adz (b0 : Nat) (a30 a31 : Nat → Nat) : ZA := fun o k => match o with
  | 30 => a30 k
  | 31 => a31 k
  | o => b0 + offz o k
def lan0 : Nat → Int32 := upd (upd (upd (upd (fun _ => 0) 0 (-4)) 1 (-4)) 2 (-4)) 3 (-4)
def z00 : OV := (fun _ => 0, fun _ => 0, fun _ _ => 0)
def zs0 : ZS := fun o => match o with
  | 12 => (va_up (fun _ => 0) 0 (-4), fun _ => 0, fun _ _ => 0)
  | 13 => (va_up (fun _ => 0) 0 (-4), fun _ => 0, fun _ _ => 0)
  | 14 => (va_up (fun _ => 0) 0 (-4), fun _ => 0, fun _ _ => 0)
  | 15 => (va_up (fun _ => 0) 0 (-4), fun _ => 0, fun _ _ => 0)
  | 20 => (fun _ => 0, fun _ => 0, va_up (fun _ _ => 0) 29 lan0)
  | _ => z00
def po9 (n : Nat) : va_E := .inr (9, [.ref n, .ref (n + 1), .ref (n + 2), .int 0, .int 0, .ref (n + 3), .int 0, .int 0, .int 0, .int 0, .ref (n + 4), .int 0, .int 0, .int 0, .int 0, .int 0, .int 0, .int 0, .int 0, .int 0, .int 0, .int 0, .ref (n + 5), .ref (n + 6), .long 0, .long 0, .long 0, .ref (n + 7), .ref (n + 8), .ref (n + 9), .ref (n + 10), .ref (n + 11), .int 0, .ref (n + 12)])
def bl9 (ia : Nat → ClassId) (n : Nat) : List va_E := [yr (ia 0) 186, yr (ia 0) 62, yr (ia 2) 2, yr (ia 0) 62, yr (ia 0) 160, yr (ia 0) 4, yr (ia 0) 4, yr (ia 0) 84, yr (ia 0) 840, .inl (ia 0, 4, .inl lan0), yr (ia 0) 4, yr (ia 0) 160, yr (ia 0) 62]
def zes (ia : Nat → ClassId) (b0 : Nat) : List va_E := po8 (b0 + 1) :: (bl8 ia (b0 + 1) ++ (po9 (b0 + 95) :: bl9 ia (b0 + 95)))
theorem zCL_eq : zCL = [(0, 0), (0, 6), (0, 7), (0, 9), (0, 10), (1, 0), (1, 2), (1, 3), (1, 4), (1, 6), (1, 7), (1, 8), (1, 9), (2, 0), (2, 2), (2, 3), (2, 4), (2, 6), (2, 7), (2, 8), (2, 9), (3, 0), (3, 2), (3, 3), (3, 4), (3, 6), (3, 7), (3, 8), (3, 9), (4, 0), (4, 2), (4, 3), (4, 4), (4, 6), (4, 7), (4, 8), (4, 9), (5, 0), (5, 2), (5, 3), (5, 4), (5, 6), (5, 7), (5, 8), (5, 9), (6, 0), (6, 2), (6, 3), (6, 4), (6, 6), (6, 7), (6, 8), (6, 9), (7, 0), (7, 2), (7, 3), (7, 4), (8, 0), (8, 2), (8, 3), (8, 4), (9, 0), (9, 2), (9, 3), (9, 4), (10, 0), (11, 0), (12, 0), (12, 3), (13, 0), (13, 3), (14, 0), (14, 3), (15, 0), (15, 3), (16, 0), (16, 1), (17, 0), (18, 0), (18, 2), (18, 3), (19, 0), (19, 1), (19, 2), (19, 11), (19, 12), (19, 13), (19, 14), (19, 15), (19, 16), (19, 17), (19, 18), (19, 19), (19, 20), (20, 0), (20, 1), (20, 2), (20, 3), (20, 6), (20, 11), (20, 23), (20, 24), (20, 28), (20, 29), (20, 30), (20, 31), (20, 32), (20, 34)] := by decide +kernel
theorem offz_inv : ∀ q ∈ zCL, invz.getD (offz q.1 q.2) (0, 0) = q := by decide +kernel
theorem offz_lt : ∀ q ∈ zCL, q.1 < 21 ∧ offz q.1 q.2 < 108 := by decide +kernel
theorem adz_off {b0 : Nat} {a30 a31 : Nat → Nat} : ∀ q ∈ zCL, adz b0 a30 a31 q.1 q.2 = b0 + offz q.1 q.2 := by
  intro q hq
  have h := (offz_lt q hq).1
  obtain ⟨o, k⟩ := q
  have h : o < 21 := h
  unfold adz
  split
  · omega
  · omega
  · rfl
theorem adz_A {b0 : Nat} {a30 a31 : Nat → Nat} : ∀ a, zAd (adz b0 a30 a31) a → b0 ≤ a := by
  intro a h
  obtain ⟨q, hq, rfl⟩ := List.mem_map.mp h
  show b0 ≤ adz b0 a30 a31 q.1 q.2
  rw [adz_off q hq]
  omega
theorem adz_nd {b0 : Nat} {a30 a31 : Nat → Nat} : (zLL (adz b0 a30 a31)).Nodup := by
  have h1 : (zCL.map fun q => offz q.1 q.2).Nodup := by decide +kernel
  unfold zLL
  have e : zCL.map (fun q => adz b0 a30 a31 q.1 q.2) = (zCL.map fun q => offz q.1 q.2).map (fun x => b0 + x) := by
    rw [List.map_map]
    exact List.map_congr_left (fun q hq => adz_off q hq)
  rw [e]
  exact List.Pairwise.map _ (fun a b h => by omega) h1
theorem arrV_cg {cA : ClassId} {N : Nat} {f g : Nat → Value} (h : ∀ j, j < N → f j = g j) : arrV cA N f = arrV cA N g := by
  unfold arrV
  congr 1
  first
    | (apply Array.ext (by simp); intro i h1 h2; simp at h1; simp [h i (by omega)])
    | (apply congrArg; funext i; exact h i.1 i.2)
theorem va_atQ {D : va_G} {a N : Nat} {cA : ClassId} {f g : Nat → Option Nat} {H : Heap} (h : va_at D vwCl (a, .inl (cA, N, .inr (.inr (.inr (.inr f))))) H) (hg : ∀ j, j < N → f j = g j) : va_at D vwCl (a, .inl (cA, N, .inr (.inr (.inr (.inr g))))) H := by
  show H[a]? = some (vp_cell _ _)
  have h : H[a]? = some (vp_cell _ _) := h
  rw [h, vp_cell_q, vp_cell_q, arrV_cg (fun j hj => by rw [hg j hj])]
section CONV
variable {D : va_G} {ia : Nat → ClassId} {b0 : Nat} {a30 a31 : Nat → Nat} {H : Heap}
set_option maxRecDepth 100000 in
theorem zc_0_0 (hat : ∀ i e, (zes ia b0)[i]? = some e → va_at D vwCl (b0 + i, e) H) : va_at D vwCl (adz b0 a30 a31 0 0, zce (adz b0 a30 a31) ia zs0 0 0) H := hat 0 _ rfl
set_option maxRecDepth 100000 in
theorem zc_0_6 (hat : ∀ i e, (zes ia b0)[i]? = some e → va_at D vwCl (b0 + i, e) H) : va_at D vwCl (adz b0 a30 a31 0 6, zce (adz b0 a30 a31) ia zs0 0 6) H := va_atQ (hat 32 _ rfl) (fun j hj => by have hj : j < 2 := hj; rcases (show j = 0 ∨ j = 1 by omega) with rfl | rfl <;> rfl)
set_option maxRecDepth 100000 in
theorem zc_0_7 (hat : ∀ i e, (zes ia b0)[i]? = some e → va_at D vwCl (b0 + i, e) H) : va_at D vwCl (adz b0 a30 a31 0 7, zce (adz b0 a30 a31) ia zs0 0 7) H := va_atQ (hat 33 _ rfl) (fun j hj => by have hj : j < 4 := hj; rcases (show j = 0 ∨ j = 1 ∨ j = 2 ∨ j = 3 by omega) with rfl | rfl | rfl | rfl <;> rfl)
set_option maxRecDepth 100000 in
theorem zc_0_9 (hat : ∀ i e, (zes ia b0)[i]? = some e → va_at D vwCl (b0 + i, e) H) : va_at D vwCl (adz b0 a30 a31 0 9, zce (adz b0 a30 a31) ia zs0 0 9) H := hat 34 _ rfl
set_option maxRecDepth 100000 in
theorem zc_0_10 (hat : ∀ i e, (zes ia b0)[i]? = some e → va_at D vwCl (b0 + i, e) H) : va_at D vwCl (adz b0 a30 a31 0 10, zce (adz b0 a30 a31) ia zs0 0 10) H := hat 35 _ rfl
set_option maxRecDepth 100000 in
theorem zc_1_0 (hat : ∀ i e, (zes ia b0)[i]? = some e → va_at D vwCl (b0 + i, e) H) : va_at D vwCl (adz b0 a30 a31 1 0, zce (adz b0 a30 a31) ia zs0 1 0) H := hat 1 _ rfl
set_option maxRecDepth 100000 in
theorem zc_1_2 (hat : ∀ i e, (zes ia b0)[i]? = some e → va_at D vwCl (b0 + i, e) H) : va_at D vwCl (adz b0 a30 a31 1 2, zce (adz b0 a30 a31) ia zs0 1 2) H := hat 2 _ rfl
set_option maxRecDepth 100000 in
theorem zc_1_3 (hat : ∀ i e, (zes ia b0)[i]? = some e → va_at D vwCl (b0 + i, e) H) : va_at D vwCl (adz b0 a30 a31 1 3, zce (adz b0 a30 a31) ia zs0 1 3) H := hat 3 _ rfl
set_option maxRecDepth 100000 in
theorem zc_1_4 (hat : ∀ i e, (zes ia b0)[i]? = some e → va_at D vwCl (b0 + i, e) H) : va_at D vwCl (adz b0 a30 a31 1 4, zce (adz b0 a30 a31) ia zs0 1 4) H := hat 4 _ rfl
set_option maxRecDepth 100000 in
theorem zc_1_6 (hat : ∀ i e, (zes ia b0)[i]? = some e → va_at D vwCl (b0 + i, e) H) : va_at D vwCl (adz b0 a30 a31 1 6, zce (adz b0 a30 a31) ia zs0 1 6) H := hat 5 _ rfl
set_option maxRecDepth 100000 in
theorem zc_1_7 (hat : ∀ i e, (zes ia b0)[i]? = some e → va_at D vwCl (b0 + i, e) H) : va_at D vwCl (adz b0 a30 a31 1 7, zce (adz b0 a30 a31) ia zs0 1 7) H := hat 6 _ rfl
set_option maxRecDepth 100000 in
theorem zc_1_8 (hat : ∀ i e, (zes ia b0)[i]? = some e → va_at D vwCl (b0 + i, e) H) : va_at D vwCl (adz b0 a30 a31 1 8, zce (adz b0 a30 a31) ia zs0 1 8) H := hat 7 _ rfl
set_option maxRecDepth 100000 in
theorem zc_1_9 (hat : ∀ i e, (zes ia b0)[i]? = some e → va_at D vwCl (b0 + i, e) H) : va_at D vwCl (adz b0 a30 a31 1 9, zce (adz b0 a30 a31) ia zs0 1 9) H := hat 8 _ rfl
set_option maxRecDepth 100000 in
theorem zc_2_0 (hat : ∀ i e, (zes ia b0)[i]? = some e → va_at D vwCl (b0 + i, e) H) : va_at D vwCl (adz b0 a30 a31 2 0, zce (adz b0 a30 a31) ia zs0 2 0) H := hat 9 _ rfl
set_option maxRecDepth 100000 in
theorem zc_2_2 (hat : ∀ i e, (zes ia b0)[i]? = some e → va_at D vwCl (b0 + i, e) H) : va_at D vwCl (adz b0 a30 a31 2 2, zce (adz b0 a30 a31) ia zs0 2 2) H := hat 10 _ rfl
set_option maxRecDepth 100000 in
theorem zc_2_3 (hat : ∀ i e, (zes ia b0)[i]? = some e → va_at D vwCl (b0 + i, e) H) : va_at D vwCl (adz b0 a30 a31 2 3, zce (adz b0 a30 a31) ia zs0 2 3) H := hat 11 _ rfl
set_option maxRecDepth 100000 in
theorem zc_2_4 (hat : ∀ i e, (zes ia b0)[i]? = some e → va_at D vwCl (b0 + i, e) H) : va_at D vwCl (adz b0 a30 a31 2 4, zce (adz b0 a30 a31) ia zs0 2 4) H := hat 12 _ rfl
set_option maxRecDepth 100000 in
theorem zc_2_6 (hat : ∀ i e, (zes ia b0)[i]? = some e → va_at D vwCl (b0 + i, e) H) : va_at D vwCl (adz b0 a30 a31 2 6, zce (adz b0 a30 a31) ia zs0 2 6) H := hat 13 _ rfl
set_option maxRecDepth 100000 in
theorem zc_2_7 (hat : ∀ i e, (zes ia b0)[i]? = some e → va_at D vwCl (b0 + i, e) H) : va_at D vwCl (adz b0 a30 a31 2 7, zce (adz b0 a30 a31) ia zs0 2 7) H := hat 14 _ rfl
set_option maxRecDepth 100000 in
theorem zc_2_8 (hat : ∀ i e, (zes ia b0)[i]? = some e → va_at D vwCl (b0 + i, e) H) : va_at D vwCl (adz b0 a30 a31 2 8, zce (adz b0 a30 a31) ia zs0 2 8) H := hat 15 _ rfl
set_option maxRecDepth 100000 in
theorem zc_2_9 (hat : ∀ i e, (zes ia b0)[i]? = some e → va_at D vwCl (b0 + i, e) H) : va_at D vwCl (adz b0 a30 a31 2 9, zce (adz b0 a30 a31) ia zs0 2 9) H := hat 16 _ rfl
set_option maxRecDepth 100000 in
theorem zc_3_0 (hat : ∀ i e, (zes ia b0)[i]? = some e → va_at D vwCl (b0 + i, e) H) : va_at D vwCl (adz b0 a30 a31 3 0, zce (adz b0 a30 a31) ia zs0 3 0) H := hat 20 _ rfl
set_option maxRecDepth 100000 in
theorem zc_3_2 (hat : ∀ i e, (zes ia b0)[i]? = some e → va_at D vwCl (b0 + i, e) H) : va_at D vwCl (adz b0 a30 a31 3 2, zce (adz b0 a30 a31) ia zs0 3 2) H := hat 21 _ rfl
set_option maxRecDepth 100000 in
theorem zc_3_3 (hat : ∀ i e, (zes ia b0)[i]? = some e → va_at D vwCl (b0 + i, e) H) : va_at D vwCl (adz b0 a30 a31 3 3, zce (adz b0 a30 a31) ia zs0 3 3) H := hat 22 _ rfl
set_option maxRecDepth 100000 in
theorem zc_3_4 (hat : ∀ i e, (zes ia b0)[i]? = some e → va_at D vwCl (b0 + i, e) H) : va_at D vwCl (adz b0 a30 a31 3 4, zce (adz b0 a30 a31) ia zs0 3 4) H := hat 23 _ rfl
set_option maxRecDepth 100000 in
theorem zc_3_6 (hat : ∀ i e, (zes ia b0)[i]? = some e → va_at D vwCl (b0 + i, e) H) : va_at D vwCl (adz b0 a30 a31 3 6, zce (adz b0 a30 a31) ia zs0 3 6) H := hat 24 _ rfl
set_option maxRecDepth 100000 in
theorem zc_3_7 (hat : ∀ i e, (zes ia b0)[i]? = some e → va_at D vwCl (b0 + i, e) H) : va_at D vwCl (adz b0 a30 a31 3 7, zce (adz b0 a30 a31) ia zs0 3 7) H := hat 25 _ rfl
set_option maxRecDepth 100000 in
theorem zc_3_8 (hat : ∀ i e, (zes ia b0)[i]? = some e → va_at D vwCl (b0 + i, e) H) : va_at D vwCl (adz b0 a30 a31 3 8, zce (adz b0 a30 a31) ia zs0 3 8) H := hat 26 _ rfl
set_option maxRecDepth 100000 in
theorem zc_3_9 (hat : ∀ i e, (zes ia b0)[i]? = some e → va_at D vwCl (b0 + i, e) H) : va_at D vwCl (adz b0 a30 a31 3 9, zce (adz b0 a30 a31) ia zs0 3 9) H := hat 27 _ rfl
set_option maxRecDepth 100000 in
theorem zc_4_0 (hat : ∀ i e, (zes ia b0)[i]? = some e → va_at D vwCl (b0 + i, e) H) : va_at D vwCl (adz b0 a30 a31 4 0, zce (adz b0 a30 a31) ia zs0 4 0) H := hat 39 _ rfl
set_option maxRecDepth 100000 in
theorem zc_4_2 (hat : ∀ i e, (zes ia b0)[i]? = some e → va_at D vwCl (b0 + i, e) H) : va_at D vwCl (adz b0 a30 a31 4 2, zce (adz b0 a30 a31) ia zs0 4 2) H := hat 40 _ rfl
set_option maxRecDepth 100000 in
theorem zc_4_3 (hat : ∀ i e, (zes ia b0)[i]? = some e → va_at D vwCl (b0 + i, e) H) : va_at D vwCl (adz b0 a30 a31 4 3, zce (adz b0 a30 a31) ia zs0 4 3) H := hat 41 _ rfl
set_option maxRecDepth 100000 in
theorem zc_4_4 (hat : ∀ i e, (zes ia b0)[i]? = some e → va_at D vwCl (b0 + i, e) H) : va_at D vwCl (adz b0 a30 a31 4 4, zce (adz b0 a30 a31) ia zs0 4 4) H := hat 42 _ rfl
set_option maxRecDepth 100000 in
theorem zc_4_6 (hat : ∀ i e, (zes ia b0)[i]? = some e → va_at D vwCl (b0 + i, e) H) : va_at D vwCl (adz b0 a30 a31 4 6, zce (adz b0 a30 a31) ia zs0 4 6) H := hat 43 _ rfl
set_option maxRecDepth 100000 in
theorem zc_4_7 (hat : ∀ i e, (zes ia b0)[i]? = some e → va_at D vwCl (b0 + i, e) H) : va_at D vwCl (adz b0 a30 a31 4 7, zce (adz b0 a30 a31) ia zs0 4 7) H := hat 44 _ rfl
set_option maxRecDepth 100000 in
theorem zc_4_8 (hat : ∀ i e, (zes ia b0)[i]? = some e → va_at D vwCl (b0 + i, e) H) : va_at D vwCl (adz b0 a30 a31 4 8, zce (adz b0 a30 a31) ia zs0 4 8) H := hat 45 _ rfl
set_option maxRecDepth 100000 in
theorem zc_4_9 (hat : ∀ i e, (zes ia b0)[i]? = some e → va_at D vwCl (b0 + i, e) H) : va_at D vwCl (adz b0 a30 a31 4 9, zce (adz b0 a30 a31) ia zs0 4 9) H := hat 46 _ rfl
set_option maxRecDepth 100000 in
theorem zc_5_0 (hat : ∀ i e, (zes ia b0)[i]? = some e → va_at D vwCl (b0 + i, e) H) : va_at D vwCl (adz b0 a30 a31 5 0, zce (adz b0 a30 a31) ia zs0 5 0) H := hat 61 _ rfl
set_option maxRecDepth 100000 in
theorem zc_5_2 (hat : ∀ i e, (zes ia b0)[i]? = some e → va_at D vwCl (b0 + i, e) H) : va_at D vwCl (adz b0 a30 a31 5 2, zce (adz b0 a30 a31) ia zs0 5 2) H := hat 62 _ rfl
set_option maxRecDepth 100000 in
theorem zc_5_3 (hat : ∀ i e, (zes ia b0)[i]? = some e → va_at D vwCl (b0 + i, e) H) : va_at D vwCl (adz b0 a30 a31 5 3, zce (adz b0 a30 a31) ia zs0 5 3) H := hat 63 _ rfl
set_option maxRecDepth 100000 in
theorem zc_5_4 (hat : ∀ i e, (zes ia b0)[i]? = some e → va_at D vwCl (b0 + i, e) H) : va_at D vwCl (adz b0 a30 a31 5 4, zce (adz b0 a30 a31) ia zs0 5 4) H := hat 64 _ rfl
set_option maxRecDepth 100000 in
theorem zc_5_6 (hat : ∀ i e, (zes ia b0)[i]? = some e → va_at D vwCl (b0 + i, e) H) : va_at D vwCl (adz b0 a30 a31 5 6, zce (adz b0 a30 a31) ia zs0 5 6) H := hat 65 _ rfl
set_option maxRecDepth 100000 in
theorem zc_5_7 (hat : ∀ i e, (zes ia b0)[i]? = some e → va_at D vwCl (b0 + i, e) H) : va_at D vwCl (adz b0 a30 a31 5 7, zce (adz b0 a30 a31) ia zs0 5 7) H := hat 66 _ rfl
set_option maxRecDepth 100000 in
theorem zc_5_8 (hat : ∀ i e, (zes ia b0)[i]? = some e → va_at D vwCl (b0 + i, e) H) : va_at D vwCl (adz b0 a30 a31 5 8, zce (adz b0 a30 a31) ia zs0 5 8) H := hat 67 _ rfl
set_option maxRecDepth 100000 in
theorem zc_5_9 (hat : ∀ i e, (zes ia b0)[i]? = some e → va_at D vwCl (b0 + i, e) H) : va_at D vwCl (adz b0 a30 a31 5 9, zce (adz b0 a30 a31) ia zs0 5 9) H := hat 68 _ rfl
set_option maxRecDepth 100000 in
theorem zc_6_0 (hat : ∀ i e, (zes ia b0)[i]? = some e → va_at D vwCl (b0 + i, e) H) : va_at D vwCl (adz b0 a30 a31 6 0, zce (adz b0 a30 a31) ia zs0 6 0) H := hat 74 _ rfl
set_option maxRecDepth 100000 in
theorem zc_6_2 (hat : ∀ i e, (zes ia b0)[i]? = some e → va_at D vwCl (b0 + i, e) H) : va_at D vwCl (adz b0 a30 a31 6 2, zce (adz b0 a30 a31) ia zs0 6 2) H := hat 75 _ rfl
set_option maxRecDepth 100000 in
theorem zc_6_3 (hat : ∀ i e, (zes ia b0)[i]? = some e → va_at D vwCl (b0 + i, e) H) : va_at D vwCl (adz b0 a30 a31 6 3, zce (adz b0 a30 a31) ia zs0 6 3) H := hat 76 _ rfl
set_option maxRecDepth 100000 in
theorem zc_6_4 (hat : ∀ i e, (zes ia b0)[i]? = some e → va_at D vwCl (b0 + i, e) H) : va_at D vwCl (adz b0 a30 a31 6 4, zce (adz b0 a30 a31) ia zs0 6 4) H := hat 77 _ rfl
set_option maxRecDepth 100000 in
theorem zc_6_6 (hat : ∀ i e, (zes ia b0)[i]? = some e → va_at D vwCl (b0 + i, e) H) : va_at D vwCl (adz b0 a30 a31 6 6, zce (adz b0 a30 a31) ia zs0 6 6) H := hat 78 _ rfl
set_option maxRecDepth 100000 in
theorem zc_6_7 (hat : ∀ i e, (zes ia b0)[i]? = some e → va_at D vwCl (b0 + i, e) H) : va_at D vwCl (adz b0 a30 a31 6 7, zce (adz b0 a30 a31) ia zs0 6 7) H := hat 79 _ rfl
set_option maxRecDepth 100000 in
theorem zc_6_8 (hat : ∀ i e, (zes ia b0)[i]? = some e → va_at D vwCl (b0 + i, e) H) : va_at D vwCl (adz b0 a30 a31 6 8, zce (adz b0 a30 a31) ia zs0 6 8) H := hat 80 _ rfl
set_option maxRecDepth 100000 in
theorem zc_6_9 (hat : ∀ i e, (zes ia b0)[i]? = some e → va_at D vwCl (b0 + i, e) H) : va_at D vwCl (adz b0 a30 a31 6 9, zce (adz b0 a30 a31) ia zs0 6 9) H := hat 81 _ rfl
set_option maxRecDepth 100000 in
theorem zc_7_0 (hat : ∀ i e, (zes ia b0)[i]? = some e → va_at D vwCl (b0 + i, e) H) : va_at D vwCl (adz b0 a30 a31 7 0, zce (adz b0 a30 a31) ia zs0 7 0) H := hat 28 _ rfl
set_option maxRecDepth 100000 in
theorem zc_7_2 (hat : ∀ i e, (zes ia b0)[i]? = some e → va_at D vwCl (b0 + i, e) H) : va_at D vwCl (adz b0 a30 a31 7 2, zce (adz b0 a30 a31) ia zs0 7 2) H := hat 29 _ rfl
set_option maxRecDepth 100000 in
theorem zc_7_3 (hat : ∀ i e, (zes ia b0)[i]? = some e → va_at D vwCl (b0 + i, e) H) : va_at D vwCl (adz b0 a30 a31 7 3, zce (adz b0 a30 a31) ia zs0 7 3) H := hat 30 _ rfl
set_option maxRecDepth 100000 in
theorem zc_7_4 (hat : ∀ i e, (zes ia b0)[i]? = some e → va_at D vwCl (b0 + i, e) H) : va_at D vwCl (adz b0 a30 a31 7 4, zce (adz b0 a30 a31) ia zs0 7 4) H := hat 31 _ rfl
set_option maxRecDepth 100000 in
theorem zc_8_0 (hat : ∀ i e, (zes ia b0)[i]? = some e → va_at D vwCl (b0 + i, e) H) : va_at D vwCl (adz b0 a30 a31 8 0, zce (adz b0 a30 a31) ia zs0 8 0) H := hat 69 _ rfl
set_option maxRecDepth 100000 in
theorem zc_8_2 (hat : ∀ i e, (zes ia b0)[i]? = some e → va_at D vwCl (b0 + i, e) H) : va_at D vwCl (adz b0 a30 a31 8 2, zce (adz b0 a30 a31) ia zs0 8 2) H := hat 70 _ rfl
set_option maxRecDepth 100000 in
theorem zc_8_3 (hat : ∀ i e, (zes ia b0)[i]? = some e → va_at D vwCl (b0 + i, e) H) : va_at D vwCl (adz b0 a30 a31 8 3, zce (adz b0 a30 a31) ia zs0 8 3) H := hat 71 _ rfl
set_option maxRecDepth 100000 in
theorem zc_8_4 (hat : ∀ i e, (zes ia b0)[i]? = some e → va_at D vwCl (b0 + i, e) H) : va_at D vwCl (adz b0 a30 a31 8 4, zce (adz b0 a30 a31) ia zs0 8 4) H := hat 72 _ rfl
set_option maxRecDepth 100000 in
theorem zc_9_0 (hat : ∀ i e, (zes ia b0)[i]? = some e → va_at D vwCl (b0 + i, e) H) : va_at D vwCl (adz b0 a30 a31 9 0, zce (adz b0 a30 a31) ia zs0 9 0) H := hat 82 _ rfl
set_option maxRecDepth 100000 in
theorem zc_9_2 (hat : ∀ i e, (zes ia b0)[i]? = some e → va_at D vwCl (b0 + i, e) H) : va_at D vwCl (adz b0 a30 a31 9 2, zce (adz b0 a30 a31) ia zs0 9 2) H := hat 83 _ rfl
set_option maxRecDepth 100000 in
theorem zc_9_3 (hat : ∀ i e, (zes ia b0)[i]? = some e → va_at D vwCl (b0 + i, e) H) : va_at D vwCl (adz b0 a30 a31 9 3, zce (adz b0 a30 a31) ia zs0 9 3) H := hat 84 _ rfl
set_option maxRecDepth 100000 in
theorem zc_9_4 (hat : ∀ i e, (zes ia b0)[i]? = some e → va_at D vwCl (b0 + i, e) H) : va_at D vwCl (adz b0 a30 a31 9 4, zce (adz b0 a30 a31) ia zs0 9 4) H := hat 85 _ rfl
set_option maxRecDepth 100000 in
theorem zc_10_0 (hat : ∀ i e, (zes ia b0)[i]? = some e → va_at D vwCl (b0 + i, e) H) : va_at D vwCl (adz b0 a30 a31 10 0, zce (adz b0 a30 a31) ia zs0 10 0) H := hat 60 _ rfl
set_option maxRecDepth 100000 in
theorem zc_11_0 (hat : ∀ i e, (zes ia b0)[i]? = some e → va_at D vwCl (b0 + i, e) H) : va_at D vwCl (adz b0 a30 a31 11 0, zce (adz b0 a30 a31) ia zs0 11 0) H := hat 73 _ rfl
set_option maxRecDepth 100000 in
theorem zc_12_0 (hat : ∀ i e, (zes ia b0)[i]? = some e → va_at D vwCl (b0 + i, e) H) : va_at D vwCl (adz b0 a30 a31 12 0, zce (adz b0 a30 a31) ia zs0 12 0) H := hat 86 _ rfl
set_option maxRecDepth 100000 in
theorem zc_12_3 (hat : ∀ i e, (zes ia b0)[i]? = some e → va_at D vwCl (b0 + i, e) H) : va_at D vwCl (adz b0 a30 a31 12 3, zce (adz b0 a30 a31) ia zs0 12 3) H := hat 87 _ rfl
set_option maxRecDepth 100000 in
theorem zc_13_0 (hat : ∀ i e, (zes ia b0)[i]? = some e → va_at D vwCl (b0 + i, e) H) : va_at D vwCl (adz b0 a30 a31 13 0, zce (adz b0 a30 a31) ia zs0 13 0) H := hat 88 _ rfl
set_option maxRecDepth 100000 in
theorem zc_13_3 (hat : ∀ i e, (zes ia b0)[i]? = some e → va_at D vwCl (b0 + i, e) H) : va_at D vwCl (adz b0 a30 a31 13 3, zce (adz b0 a30 a31) ia zs0 13 3) H := hat 89 _ rfl
set_option maxRecDepth 100000 in
theorem zc_14_0 (hat : ∀ i e, (zes ia b0)[i]? = some e → va_at D vwCl (b0 + i, e) H) : va_at D vwCl (adz b0 a30 a31 14 0, zce (adz b0 a30 a31) ia zs0 14 0) H := hat 90 _ rfl
set_option maxRecDepth 100000 in
theorem zc_14_3 (hat : ∀ i e, (zes ia b0)[i]? = some e → va_at D vwCl (b0 + i, e) H) : va_at D vwCl (adz b0 a30 a31 14 3, zce (adz b0 a30 a31) ia zs0 14 3) H := hat 91 _ rfl
set_option maxRecDepth 100000 in
theorem zc_15_0 (hat : ∀ i e, (zes ia b0)[i]? = some e → va_at D vwCl (b0 + i, e) H) : va_at D vwCl (adz b0 a30 a31 15 0, zce (adz b0 a30 a31) ia zs0 15 0) H := hat 92 _ rfl
set_option maxRecDepth 100000 in
theorem zc_15_3 (hat : ∀ i e, (zes ia b0)[i]? = some e → va_at D vwCl (b0 + i, e) H) : va_at D vwCl (adz b0 a30 a31 15 3, zce (adz b0 a30 a31) ia zs0 15 3) H := hat 93 _ rfl
set_option maxRecDepth 100000 in
theorem zc_16_0 (hat : ∀ i e, (zes ia b0)[i]? = some e → va_at D vwCl (b0 + i, e) H) : va_at D vwCl (adz b0 a30 a31 16 0, zce (adz b0 a30 a31) ia zs0 16 0) H := hat 18 _ rfl
set_option maxRecDepth 100000 in
theorem zc_16_1 (hat : ∀ i e, (zes ia b0)[i]? = some e → va_at D vwCl (b0 + i, e) H) : va_at D vwCl (adz b0 a30 a31 16 1, zce (adz b0 a30 a31) ia zs0 16 1) H := hat 19 _ rfl
set_option maxRecDepth 100000 in
theorem zc_17_0 (hat : ∀ i e, (zes ia b0)[i]? = some e → va_at D vwCl (b0 + i, e) H) : va_at D vwCl (adz b0 a30 a31 17 0, zce (adz b0 a30 a31) ia zs0 17 0) H := hat 17 _ rfl
set_option maxRecDepth 100000 in
theorem zc_18_0 (hat : ∀ i e, (zes ia b0)[i]? = some e → va_at D vwCl (b0 + i, e) H) : va_at D vwCl (adz b0 a30 a31 18 0, zce (adz b0 a30 a31) ia zs0 18 0) H := hat 36 _ rfl
set_option maxRecDepth 100000 in
theorem zc_18_2 (hat : ∀ i e, (zes ia b0)[i]? = some e → va_at D vwCl (b0 + i, e) H) : va_at D vwCl (adz b0 a30 a31 18 2, zce (adz b0 a30 a31) ia zs0 18 2) H := hat 37 _ rfl
set_option maxRecDepth 100000 in
theorem zc_18_3 (hat : ∀ i e, (zes ia b0)[i]? = some e → va_at D vwCl (b0 + i, e) H) : va_at D vwCl (adz b0 a30 a31 18 3, zce (adz b0 a30 a31) ia zs0 18 3) H := hat 38 _ rfl
set_option maxRecDepth 100000 in
theorem zc_19_0 (hat : ∀ i e, (zes ia b0)[i]? = some e → va_at D vwCl (b0 + i, e) H) : va_at D vwCl (adz b0 a30 a31 19 0, zce (adz b0 a30 a31) ia zs0 19 0) H := hat 47 _ rfl
set_option maxRecDepth 100000 in
theorem zc_19_1 (hat : ∀ i e, (zes ia b0)[i]? = some e → va_at D vwCl (b0 + i, e) H) : va_at D vwCl (adz b0 a30 a31 19 1, zce (adz b0 a30 a31) ia zs0 19 1) H := va_atQ (hat 48 _ rfl) (fun j hj => by have hj : j < 10 := hj; rcases (show j = 0 ∨ j = 1 ∨ j = 2 ∨ j = 3 ∨ j = 4 ∨ j = 5 ∨ j = 6 ∨ j = 7 ∨ j = 8 ∨ j = 9 by omega) with rfl | rfl | rfl | rfl | rfl | rfl | rfl | rfl | rfl | rfl <;> rfl)
set_option maxRecDepth 100000 in
theorem zc_19_2 (hat : ∀ i e, (zes ia b0)[i]? = some e → va_at D vwCl (b0 + i, e) H) : va_at D vwCl (adz b0 a30 a31 19 2, zce (adz b0 a30 a31) ia zs0 19 2) H := hat 59 _ rfl
set_option maxRecDepth 100000 in
theorem zc_19_11 (hat : ∀ i e, (zes ia b0)[i]? = some e → va_at D vwCl (b0 + i, e) H) : va_at D vwCl (adz b0 a30 a31 19 11, zce (adz b0 a30 a31) ia zs0 19 11) H := hat 49 _ rfl
set_option maxRecDepth 100000 in
theorem zc_19_12 (hat : ∀ i e, (zes ia b0)[i]? = some e → va_at D vwCl (b0 + i, e) H) : va_at D vwCl (adz b0 a30 a31 19 12, zce (adz b0 a30 a31) ia zs0 19 12) H := hat 50 _ rfl
set_option maxRecDepth 100000 in
theorem zc_19_13 (hat : ∀ i e, (zes ia b0)[i]? = some e → va_at D vwCl (b0 + i, e) H) : va_at D vwCl (adz b0 a30 a31 19 13, zce (adz b0 a30 a31) ia zs0 19 13) H := hat 51 _ rfl
set_option maxRecDepth 100000 in
theorem zc_19_14 (hat : ∀ i e, (zes ia b0)[i]? = some e → va_at D vwCl (b0 + i, e) H) : va_at D vwCl (adz b0 a30 a31 19 14, zce (adz b0 a30 a31) ia zs0 19 14) H := hat 52 _ rfl
set_option maxRecDepth 100000 in
theorem zc_19_15 (hat : ∀ i e, (zes ia b0)[i]? = some e → va_at D vwCl (b0 + i, e) H) : va_at D vwCl (adz b0 a30 a31 19 15, zce (adz b0 a30 a31) ia zs0 19 15) H := hat 53 _ rfl
set_option maxRecDepth 100000 in
theorem zc_19_16 (hat : ∀ i e, (zes ia b0)[i]? = some e → va_at D vwCl (b0 + i, e) H) : va_at D vwCl (adz b0 a30 a31 19 16, zce (adz b0 a30 a31) ia zs0 19 16) H := hat 54 _ rfl
set_option maxRecDepth 100000 in
theorem zc_19_17 (hat : ∀ i e, (zes ia b0)[i]? = some e → va_at D vwCl (b0 + i, e) H) : va_at D vwCl (adz b0 a30 a31 19 17, zce (adz b0 a30 a31) ia zs0 19 17) H := hat 55 _ rfl
set_option maxRecDepth 100000 in
theorem zc_19_18 (hat : ∀ i e, (zes ia b0)[i]? = some e → va_at D vwCl (b0 + i, e) H) : va_at D vwCl (adz b0 a30 a31 19 18, zce (adz b0 a30 a31) ia zs0 19 18) H := hat 56 _ rfl
set_option maxRecDepth 100000 in
theorem zc_19_19 (hat : ∀ i e, (zes ia b0)[i]? = some e → va_at D vwCl (b0 + i, e) H) : va_at D vwCl (adz b0 a30 a31 19 19, zce (adz b0 a30 a31) ia zs0 19 19) H := hat 57 _ rfl
set_option maxRecDepth 100000 in
theorem zc_19_20 (hat : ∀ i e, (zes ia b0)[i]? = some e → va_at D vwCl (b0 + i, e) H) : va_at D vwCl (adz b0 a30 a31 19 20, zce (adz b0 a30 a31) ia zs0 19 20) H := hat 58 _ rfl
set_option maxRecDepth 100000 in
theorem zc_20_0 (hat : ∀ i e, (zes ia b0)[i]? = some e → va_at D vwCl (b0 + i, e) H) : va_at D vwCl (adz b0 a30 a31 20 0, zce (adz b0 a30 a31) ia zs0 20 0) H := hat 94 _ rfl
set_option maxRecDepth 100000 in
theorem zc_20_1 (hat : ∀ i e, (zes ia b0)[i]? = some e → va_at D vwCl (b0 + i, e) H) : va_at D vwCl (adz b0 a30 a31 20 1, zce (adz b0 a30 a31) ia zs0 20 1) H := hat 95 _ rfl
set_option maxRecDepth 100000 in
theorem zc_20_2 (hat : ∀ i e, (zes ia b0)[i]? = some e → va_at D vwCl (b0 + i, e) H) : va_at D vwCl (adz b0 a30 a31 20 2, zce (adz b0 a30 a31) ia zs0 20 2) H := hat 96 _ rfl
set_option maxRecDepth 100000 in
theorem zc_20_3 (hat : ∀ i e, (zes ia b0)[i]? = some e → va_at D vwCl (b0 + i, e) H) : va_at D vwCl (adz b0 a30 a31 20 3, zce (adz b0 a30 a31) ia zs0 20 3) H := hat 97 _ rfl
set_option maxRecDepth 100000 in
theorem zc_20_6 (hat : ∀ i e, (zes ia b0)[i]? = some e → va_at D vwCl (b0 + i, e) H) : va_at D vwCl (adz b0 a30 a31 20 6, zce (adz b0 a30 a31) ia zs0 20 6) H := hat 98 _ rfl
set_option maxRecDepth 100000 in
theorem zc_20_11 (hat : ∀ i e, (zes ia b0)[i]? = some e → va_at D vwCl (b0 + i, e) H) : va_at D vwCl (adz b0 a30 a31 20 11, zce (adz b0 a30 a31) ia zs0 20 11) H := hat 99 _ rfl
set_option maxRecDepth 100000 in
theorem zc_20_23 (hat : ∀ i e, (zes ia b0)[i]? = some e → va_at D vwCl (b0 + i, e) H) : va_at D vwCl (adz b0 a30 a31 20 23, zce (adz b0 a30 a31) ia zs0 20 23) H := hat 100 _ rfl
set_option maxRecDepth 100000 in
theorem zc_20_24 (hat : ∀ i e, (zes ia b0)[i]? = some e → va_at D vwCl (b0 + i, e) H) : va_at D vwCl (adz b0 a30 a31 20 24, zce (adz b0 a30 a31) ia zs0 20 24) H := hat 101 _ rfl
set_option maxRecDepth 100000 in
theorem zc_20_28 (hat : ∀ i e, (zes ia b0)[i]? = some e → va_at D vwCl (b0 + i, e) H) : va_at D vwCl (adz b0 a30 a31 20 28, zce (adz b0 a30 a31) ia zs0 20 28) H := hat 102 _ rfl
set_option maxRecDepth 100000 in
theorem zc_20_29 (hat : ∀ i e, (zes ia b0)[i]? = some e → va_at D vwCl (b0 + i, e) H) : va_at D vwCl (adz b0 a30 a31 20 29, zce (adz b0 a30 a31) ia zs0 20 29) H := hat 103 _ rfl
set_option maxRecDepth 100000 in
theorem zc_20_30 (hat : ∀ i e, (zes ia b0)[i]? = some e → va_at D vwCl (b0 + i, e) H) : va_at D vwCl (adz b0 a30 a31 20 30, zce (adz b0 a30 a31) ia zs0 20 30) H := hat 104 _ rfl
set_option maxRecDepth 100000 in
theorem zc_20_31 (hat : ∀ i e, (zes ia b0)[i]? = some e → va_at D vwCl (b0 + i, e) H) : va_at D vwCl (adz b0 a30 a31 20 31, zce (adz b0 a30 a31) ia zs0 20 31) H := hat 105 _ rfl
set_option maxRecDepth 100000 in
theorem zc_20_32 (hat : ∀ i e, (zes ia b0)[i]? = some e → va_at D vwCl (b0 + i, e) H) : va_at D vwCl (adz b0 a30 a31 20 32, zce (adz b0 a30 a31) ia zs0 20 32) H := hat 106 _ rfl
set_option maxRecDepth 100000 in
theorem zc_20_34 (hat : ∀ i e, (zes ia b0)[i]? = some e → va_at D vwCl (b0 + i, e) H) : va_at D vwCl (adz b0 a30 a31 20 34, zce (adz b0 a30 a31) ia zs0 20 34) H := hat 107 _ rfl
set_option maxRecDepth 100000 in
theorem zc_all (hat : ∀ i e, (zes ia b0)[i]? = some e → va_at D vwCl (b0 + i, e) H) : ∀ q ∈ zCL, va_at D vwCl (adz b0 a30 a31 q.1 q.2, zce (adz b0 a30 a31) ia zs0 q.1 q.2) H := by
  rw [zCL_eq]
  exact List.forall_mem_cons.mpr ⟨zc_0_0 hat, List.forall_mem_cons.mpr ⟨zc_0_6 hat, List.forall_mem_cons.mpr ⟨zc_0_7 hat, List.forall_mem_cons.mpr ⟨zc_0_9 hat, List.forall_mem_cons.mpr ⟨zc_0_10 hat, List.forall_mem_cons.mpr ⟨zc_1_0 hat, List.forall_mem_cons.mpr ⟨zc_1_2 hat, List.forall_mem_cons.mpr ⟨zc_1_3 hat, List.forall_mem_cons.mpr ⟨zc_1_4 hat, List.forall_mem_cons.mpr ⟨zc_1_6 hat, List.forall_mem_cons.mpr ⟨zc_1_7 hat, List.forall_mem_cons.mpr ⟨zc_1_8 hat, List.forall_mem_cons.mpr ⟨zc_1_9 hat, List.forall_mem_cons.mpr ⟨zc_2_0 hat, List.forall_mem_cons.mpr ⟨zc_2_2 hat, List.forall_mem_cons.mpr ⟨zc_2_3 hat, List.forall_mem_cons.mpr ⟨zc_2_4 hat, List.forall_mem_cons.mpr ⟨zc_2_6 hat, List.forall_mem_cons.mpr ⟨zc_2_7 hat, List.forall_mem_cons.mpr ⟨zc_2_8 hat, List.forall_mem_cons.mpr ⟨zc_2_9 hat, List.forall_mem_cons.mpr ⟨zc_3_0 hat, List.forall_mem_cons.mpr ⟨zc_3_2 hat, List.forall_mem_cons.mpr ⟨zc_3_3 hat, List.forall_mem_cons.mpr ⟨zc_3_4 hat, List.forall_mem_cons.mpr ⟨zc_3_6 hat, List.forall_mem_cons.mpr ⟨zc_3_7 hat, List.forall_mem_cons.mpr ⟨zc_3_8 hat, List.forall_mem_cons.mpr ⟨zc_3_9 hat, List.forall_mem_cons.mpr ⟨zc_4_0 hat, List.forall_mem_cons.mpr ⟨zc_4_2 hat, List.forall_mem_cons.mpr ⟨zc_4_3 hat, List.forall_mem_cons.mpr ⟨zc_4_4 hat, List.forall_mem_cons.mpr ⟨zc_4_6 hat, List.forall_mem_cons.mpr ⟨zc_4_7 hat, List.forall_mem_cons.mpr ⟨zc_4_8 hat, List.forall_mem_cons.mpr ⟨zc_4_9 hat, List.forall_mem_cons.mpr ⟨zc_5_0 hat, List.forall_mem_cons.mpr ⟨zc_5_2 hat, List.forall_mem_cons.mpr ⟨zc_5_3 hat, List.forall_mem_cons.mpr ⟨zc_5_4 hat, List.forall_mem_cons.mpr ⟨zc_5_6 hat, List.forall_mem_cons.mpr ⟨zc_5_7 hat, List.forall_mem_cons.mpr ⟨zc_5_8 hat, List.forall_mem_cons.mpr ⟨zc_5_9 hat, List.forall_mem_cons.mpr ⟨zc_6_0 hat, List.forall_mem_cons.mpr ⟨zc_6_2 hat, List.forall_mem_cons.mpr ⟨zc_6_3 hat, List.forall_mem_cons.mpr ⟨zc_6_4 hat, List.forall_mem_cons.mpr ⟨zc_6_6 hat, List.forall_mem_cons.mpr ⟨zc_6_7 hat, List.forall_mem_cons.mpr ⟨zc_6_8 hat, List.forall_mem_cons.mpr ⟨zc_6_9 hat, List.forall_mem_cons.mpr ⟨zc_7_0 hat, List.forall_mem_cons.mpr ⟨zc_7_2 hat, List.forall_mem_cons.mpr ⟨zc_7_3 hat, List.forall_mem_cons.mpr ⟨zc_7_4 hat, List.forall_mem_cons.mpr ⟨zc_8_0 hat, List.forall_mem_cons.mpr ⟨zc_8_2 hat, List.forall_mem_cons.mpr ⟨zc_8_3 hat, List.forall_mem_cons.mpr ⟨zc_8_4 hat, List.forall_mem_cons.mpr ⟨zc_9_0 hat, List.forall_mem_cons.mpr ⟨zc_9_2 hat, List.forall_mem_cons.mpr ⟨zc_9_3 hat, List.forall_mem_cons.mpr ⟨zc_9_4 hat, List.forall_mem_cons.mpr ⟨zc_10_0 hat, List.forall_mem_cons.mpr ⟨zc_11_0 hat, List.forall_mem_cons.mpr ⟨zc_12_0 hat, List.forall_mem_cons.mpr ⟨zc_12_3 hat, List.forall_mem_cons.mpr ⟨zc_13_0 hat, List.forall_mem_cons.mpr ⟨zc_13_3 hat, List.forall_mem_cons.mpr ⟨zc_14_0 hat, List.forall_mem_cons.mpr ⟨zc_14_3 hat, List.forall_mem_cons.mpr ⟨zc_15_0 hat, List.forall_mem_cons.mpr ⟨zc_15_3 hat, List.forall_mem_cons.mpr ⟨zc_16_0 hat, List.forall_mem_cons.mpr ⟨zc_16_1 hat, List.forall_mem_cons.mpr ⟨zc_17_0 hat, List.forall_mem_cons.mpr ⟨zc_18_0 hat, List.forall_mem_cons.mpr ⟨zc_18_2 hat, List.forall_mem_cons.mpr ⟨zc_18_3 hat, List.forall_mem_cons.mpr ⟨zc_19_0 hat, List.forall_mem_cons.mpr ⟨zc_19_1 hat, List.forall_mem_cons.mpr ⟨zc_19_2 hat, List.forall_mem_cons.mpr ⟨zc_19_11 hat, List.forall_mem_cons.mpr ⟨zc_19_12 hat, List.forall_mem_cons.mpr ⟨zc_19_13 hat, List.forall_mem_cons.mpr ⟨zc_19_14 hat, List.forall_mem_cons.mpr ⟨zc_19_15 hat, List.forall_mem_cons.mpr ⟨zc_19_16 hat, List.forall_mem_cons.mpr ⟨zc_19_17 hat, List.forall_mem_cons.mpr ⟨zc_19_18 hat, List.forall_mem_cons.mpr ⟨zc_19_19 hat, List.forall_mem_cons.mpr ⟨zc_19_20 hat, List.forall_mem_cons.mpr ⟨zc_20_0 hat, List.forall_mem_cons.mpr ⟨zc_20_1 hat, List.forall_mem_cons.mpr ⟨zc_20_2 hat, List.forall_mem_cons.mpr ⟨zc_20_3 hat, List.forall_mem_cons.mpr ⟨zc_20_6 hat, List.forall_mem_cons.mpr ⟨zc_20_11 hat, List.forall_mem_cons.mpr ⟨zc_20_23 hat, List.forall_mem_cons.mpr ⟨zc_20_24 hat, List.forall_mem_cons.mpr ⟨zc_20_28 hat, List.forall_mem_cons.mpr ⟨zc_20_29 hat, List.forall_mem_cons.mpr ⟨zc_20_30 hat, List.forall_mem_cons.mpr ⟨zc_20_31 hat, List.forall_mem_cons.mpr ⟨zc_20_32 hat, List.forall_mem_cons.mpr ⟨zc_20_34 hat, fun _ h => absurd h List.not_mem_nil⟩⟩⟩⟩⟩⟩⟩⟩⟩⟩⟩⟩⟩⟩⟩⟩⟩⟩⟩⟩⟩⟩⟩⟩⟩⟩⟩⟩⟩⟩⟩⟩⟩⟩⟩⟩⟩⟩⟩⟩⟩⟩⟩⟩⟩⟩⟩⟩⟩⟩⟩⟩⟩⟩⟩⟩⟩⟩⟩⟩⟩⟩⟩⟩⟩⟩⟩⟩⟩⟩⟩⟩⟩⟩⟩⟩⟩⟩⟩⟩⟩⟩⟩⟩⟩⟩⟩⟩⟩⟩⟩⟩⟩⟩⟩⟩⟩⟩⟩⟩⟩⟩⟩⟩⟩⟩⟩⟩
theorem zW_of (hat : ∀ i e, (zes ia b0)[i]? = some e → va_at D vwCl (b0 + i, e) H) : zW (adz b0 a30 a31) D ia zs0 H := by
  refine ⟨fun a => zce (adz b0 a30 a31) ia zs0 (invz.getD (a - b0) (0, 0)).1 (invz.getD (a - b0) (0, 0)).2, fun q hq => ?_, fun k q hq => ?_⟩
  · dsimp only
    rw [adz_off q hq, show b0 + offz q.1 q.2 - b0 = offz q.1 q.2 by omega, offz_inv q hq]
  · have hm := List.mem_of_getElem? hq
    obtain ⟨a, ha, rfl⟩ := List.mem_map.mp hm
    obtain ⟨r, hr, rfl⟩ := List.mem_map.mp ha
    have h := zc_all (D := D) (ia := ia) (b0 := b0) (a30 := a30) (a31 := a31) (H := H) hat r hr
    have e : (adz b0 a30 a31 r.1 r.2) - b0 = offz r.1 r.2 := by rw [adz_off r hr]; omega
    show va_at D vwCl (adz b0 a30 a31 r.1 r.2, zce (adz b0 a30 a31) ia zs0 (invz.getD (adz b0 a30 a31 r.1 r.2 - b0) (0, 0)).1 (invz.getD (adz b0 a30 a31 r.1 r.2 - b0) (0, 0)).2) H
    rw [e, offz_inv r hr]
    exact h
end CONV
