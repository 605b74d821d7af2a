/-! The codes of bays, one by one: tops, bits, ways back. -/
set_option maxRecDepth 100000 in
theorem k_a_0 : (LL 0).all (k_a 0) = true := by decide +kernel
set_option maxRecDepth 100000 in
theorem k_a_1 : (LL 1).all (k_a 1) = true := by decide +kernel
set_option maxRecDepth 100000 in
theorem k_a_2 : (LL 2).all (k_a 2) = true := by decide +kernel
set_option maxRecDepth 100000 in
theorem k_a_3 : (LL 3).all (k_a 3) = true := by decide +kernel
set_option maxRecDepth 100000 in
theorem k_a_4_0 : L4_0.all (k_a 4) = true := by decide +kernel
set_option maxRecDepth 100000 in
theorem k_a_4_1 : L4_1.all (k_a 4) = true := by decide +kernel
set_option maxRecDepth 100000 in
theorem k_a_4_2 : L4_2.all (k_a 4) = true := by decide +kernel
set_option maxRecDepth 100000 in
theorem k_a_4_3 : L4_3.all (k_a 4) = true := by decide +kernel
set_option maxRecDepth 100000 in
theorem k_a_4_4 : L4_4.all (k_a 4) = true := by decide +kernel
set_option maxRecDepth 100000 in
theorem k_a_4_5 : L4_5.all (k_a 4) = true := by decide +kernel
set_option maxRecDepth 100000 in
theorem k_a_4_6 : L4_6.all (k_a 4) = true := by decide +kernel
set_option maxRecDepth 100000 in
theorem k_a_4_7 : L4_7.all (k_a 4) = true := by decide +kernel
set_option maxRecDepth 100000 in
theorem k_a_4_8 : L4_8.all (k_a 4) = true := by decide +kernel
set_option maxRecDepth 100000 in
theorem k_a_4_9 : L4_9.all (k_a 4) = true := by decide +kernel
set_option maxRecDepth 100000 in
theorem k_a_4_10 : L4_10.all (k_a 4) = true := by decide +kernel
set_option maxRecDepth 100000 in
theorem k_a_4_11 : L4_11.all (k_a 4) = true := by decide +kernel
set_option maxRecDepth 100000 in
theorem k_a_4_12 : L4_12.all (k_a 4) = true := by decide +kernel
set_option maxRecDepth 100000 in
theorem k_a_4_13 : L4_13.all (k_a 4) = true := by decide +kernel
set_option maxRecDepth 100000 in
theorem k_a_4_14 : L4_14.all (k_a 4) = true := by decide +kernel
set_option maxRecDepth 100000 in
theorem k_a_4_15 : L4_15.all (k_a 4) = true := by decide +kernel
set_option maxRecDepth 100000 in
theorem k_a_4_16 : L4_16.all (k_a 4) = true := by decide +kernel
set_option maxRecDepth 100000 in
theorem k_a_4_17 : L4_17.all (k_a 4) = true := by decide +kernel
set_option maxRecDepth 100000 in
theorem k_a_4_18 : L4_18.all (k_a 4) = true := by decide +kernel
set_option maxRecDepth 100000 in
theorem k_a_4_19 : L4_19.all (k_a 4) = true := by decide +kernel
theorem k_a_4 : (LL 4).all (k_a 4) = true := by
  show (L4_0 ++ L4_1 ++ L4_2 ++ L4_3 ++ L4_4 ++ L4_5 ++ L4_6 ++ L4_7 ++ L4_8 ++ L4_9 ++ L4_10 ++ L4_11 ++ L4_12 ++ L4_13 ++ L4_14 ++ L4_15 ++ L4_16 ++ L4_17 ++ L4_18 ++ L4_19).all (k_a 4) = true
  rw [List.all_append, List.all_append, List.all_append, List.all_append, List.all_append, List.all_append, List.all_append, List.all_append, List.all_append, List.all_append, List.all_append, List.all_append, List.all_append, List.all_append, List.all_append, List.all_append, List.all_append, List.all_append, List.all_append]
  simp only [k_a_4_0, k_a_4_1, k_a_4_2, k_a_4_3, k_a_4_4, k_a_4_5, k_a_4_6, k_a_4_7, k_a_4_8, k_a_4_9, k_a_4_10, k_a_4_11, k_a_4_12, k_a_4_13, k_a_4_14, k_a_4_15, k_a_4_16, k_a_4_17, k_a_4_18, k_a_4_19]
  rfl
theorem k_a_t {n c : Nat} (hn : n ≤ 4) (hc : c ∈ LL n) : k_a n c = true := by
  match n, hn with
  | 0, _ => exact List.all_eq_true.mp k_a_0 c hc
  | 1, _ => exact List.all_eq_true.mp k_a_1 c hc
  | 2, _ => exact List.all_eq_true.mp k_a_2 c hc
  | 3, _ => exact List.all_eq_true.mp k_a_3 c hc
  | 4, _ => exact List.all_eq_true.mp k_a_4 c hc
set_option maxRecDepth 100000 in
theorem k_c_0 : (LL 0).all (k_c 0) = true := by decide +kernel
set_option maxRecDepth 100000 in
theorem k_c_1 : (LL 1).all (k_c 1) = true := by decide +kernel
set_option maxRecDepth 100000 in
theorem k_c_2 : (LL 2).all (k_c 2) = true := by decide +kernel
set_option maxRecDepth 100000 in
theorem k_c_3 : (LL 3).all (k_c 3) = true := by decide +kernel
set_option maxRecDepth 100000 in
theorem k_c_4_0 : L4_0.all (k_c 4) = true := by decide +kernel
set_option maxRecDepth 100000 in
theorem k_c_4_1 : L4_1.all (k_c 4) = true := by decide +kernel
set_option maxRecDepth 100000 in
theorem k_c_4_2 : L4_2.all (k_c 4) = true := by decide +kernel
set_option maxRecDepth 100000 in
theorem k_c_4_3 : L4_3.all (k_c 4) = true := by decide +kernel
set_option maxRecDepth 100000 in
theorem k_c_4_4 : L4_4.all (k_c 4) = true := by decide +kernel
set_option maxRecDepth 100000 in
theorem k_c_4_5 : L4_5.all (k_c 4) = true := by decide +kernel
set_option maxRecDepth 100000 in
theorem k_c_4_6 : L4_6.all (k_c 4) = true := by decide +kernel
set_option maxRecDepth 100000 in
theorem k_c_4_7 : L4_7.all (k_c 4) = true := by decide +kernel
set_option maxRecDepth 100000 in
theorem k_c_4_8 : L4_8.all (k_c 4) = true := by decide +kernel
set_option maxRecDepth 100000 in
theorem k_c_4_9 : L4_9.all (k_c 4) = true := by decide +kernel
set_option maxRecDepth 100000 in
theorem k_c_4_10 : L4_10.all (k_c 4) = true := by decide +kernel
set_option maxRecDepth 100000 in
theorem k_c_4_11 : L4_11.all (k_c 4) = true := by decide +kernel
set_option maxRecDepth 100000 in
theorem k_c_4_12 : L4_12.all (k_c 4) = true := by decide +kernel
set_option maxRecDepth 100000 in
theorem k_c_4_13 : L4_13.all (k_c 4) = true := by decide +kernel
set_option maxRecDepth 100000 in
theorem k_c_4_14 : L4_14.all (k_c 4) = true := by decide +kernel
set_option maxRecDepth 100000 in
theorem k_c_4_15 : L4_15.all (k_c 4) = true := by decide +kernel
set_option maxRecDepth 100000 in
theorem k_c_4_16 : L4_16.all (k_c 4) = true := by decide +kernel
set_option maxRecDepth 100000 in
theorem k_c_4_17 : L4_17.all (k_c 4) = true := by decide +kernel
set_option maxRecDepth 100000 in
theorem k_c_4_18 : L4_18.all (k_c 4) = true := by decide +kernel
set_option maxRecDepth 100000 in
theorem k_c_4_19 : L4_19.all (k_c 4) = true := by decide +kernel
theorem k_c_4 : (LL 4).all (k_c 4) = true := by
  show (L4_0 ++ L4_1 ++ L4_2 ++ L4_3 ++ L4_4 ++ L4_5 ++ L4_6 ++ L4_7 ++ L4_8 ++ L4_9 ++ L4_10 ++ L4_11 ++ L4_12 ++ L4_13 ++ L4_14 ++ L4_15 ++ L4_16 ++ L4_17 ++ L4_18 ++ L4_19).all (k_c 4) = true
  rw [List.all_append, List.all_append, List.all_append, List.all_append, List.all_append, List.all_append, List.all_append, List.all_append, List.all_append, List.all_append, List.all_append, List.all_append, List.all_append, List.all_append, List.all_append, List.all_append, List.all_append, List.all_append, List.all_append]
  simp only [k_c_4_0, k_c_4_1, k_c_4_2, k_c_4_3, k_c_4_4, k_c_4_5, k_c_4_6, k_c_4_7, k_c_4_8, k_c_4_9, k_c_4_10, k_c_4_11, k_c_4_12, k_c_4_13, k_c_4_14, k_c_4_15, k_c_4_16, k_c_4_17, k_c_4_18, k_c_4_19]
  rfl
theorem k_c_t {n c : Nat} (hn : n ≤ 4) (hc : c ∈ LL n) : k_c n c = true := by
  match n, hn with
  | 0, _ => exact List.all_eq_true.mp k_c_0 c hc
  | 1, _ => exact List.all_eq_true.mp k_c_1 c hc
  | 2, _ => exact List.all_eq_true.mp k_c_2 c hc
  | 3, _ => exact List.all_eq_true.mp k_c_3 c hc
  | 4, _ => exact List.all_eq_true.mp k_c_4 c hc
set_option maxRecDepth 100000 in
theorem k_d_0 : (LL 0).all (k_d 0) = true := by decide +kernel
set_option maxRecDepth 100000 in
theorem k_d_1 : (LL 1).all (k_d 1) = true := by decide +kernel
set_option maxRecDepth 100000 in
theorem k_d_2 : (LL 2).all (k_d 2) = true := by decide +kernel
set_option maxRecDepth 100000 in
theorem k_d_3 : (LL 3).all (k_d 3) = true := by decide +kernel
set_option maxRecDepth 100000 in
theorem k_d_4_0 : L4_0.all (k_d 4) = true := by decide +kernel
set_option maxRecDepth 100000 in
theorem k_d_4_1 : L4_1.all (k_d 4) = true := by decide +kernel
set_option maxRecDepth 100000 in
theorem k_d_4_2 : L4_2.all (k_d 4) = true := by decide +kernel
set_option maxRecDepth 100000 in
theorem k_d_4_3 : L4_3.all (k_d 4) = true := by decide +kernel
set_option maxRecDepth 100000 in
theorem k_d_4_4 : L4_4.all (k_d 4) = true := by decide +kernel
set_option maxRecDepth 100000 in
theorem k_d_4_5 : L4_5.all (k_d 4) = true := by decide +kernel
set_option maxRecDepth 100000 in
theorem k_d_4_6 : L4_6.all (k_d 4) = true := by decide +kernel
set_option maxRecDepth 100000 in
theorem k_d_4_7 : L4_7.all (k_d 4) = true := by decide +kernel
set_option maxRecDepth 100000 in
theorem k_d_4_8 : L4_8.all (k_d 4) = true := by decide +kernel
set_option maxRecDepth 100000 in
theorem k_d_4_9 : L4_9.all (k_d 4) = true := by decide +kernel
set_option maxRecDepth 100000 in
theorem k_d_4_10 : L4_10.all (k_d 4) = true := by decide +kernel
set_option maxRecDepth 100000 in
theorem k_d_4_11 : L4_11.all (k_d 4) = true := by decide +kernel
set_option maxRecDepth 100000 in
theorem k_d_4_12 : L4_12.all (k_d 4) = true := by decide +kernel
set_option maxRecDepth 100000 in
theorem k_d_4_13 : L4_13.all (k_d 4) = true := by decide +kernel
set_option maxRecDepth 100000 in
theorem k_d_4_14 : L4_14.all (k_d 4) = true := by decide +kernel
set_option maxRecDepth 100000 in
theorem k_d_4_15 : L4_15.all (k_d 4) = true := by decide +kernel
set_option maxRecDepth 100000 in
theorem k_d_4_16 : L4_16.all (k_d 4) = true := by decide +kernel
set_option maxRecDepth 100000 in
theorem k_d_4_17 : L4_17.all (k_d 4) = true := by decide +kernel
set_option maxRecDepth 100000 in
theorem k_d_4_18 : L4_18.all (k_d 4) = true := by decide +kernel
set_option maxRecDepth 100000 in
theorem k_d_4_19 : L4_19.all (k_d 4) = true := by decide +kernel
theorem k_d_4 : (LL 4).all (k_d 4) = true := by
  show (L4_0 ++ L4_1 ++ L4_2 ++ L4_3 ++ L4_4 ++ L4_5 ++ L4_6 ++ L4_7 ++ L4_8 ++ L4_9 ++ L4_10 ++ L4_11 ++ L4_12 ++ L4_13 ++ L4_14 ++ L4_15 ++ L4_16 ++ L4_17 ++ L4_18 ++ L4_19).all (k_d 4) = true
  rw [List.all_append, List.all_append, List.all_append, List.all_append, List.all_append, List.all_append, List.all_append, List.all_append, List.all_append, List.all_append, List.all_append, List.all_append, List.all_append, List.all_append, List.all_append, List.all_append, List.all_append, List.all_append, List.all_append]
  simp only [k_d_4_0, k_d_4_1, k_d_4_2, k_d_4_3, k_d_4_4, k_d_4_5, k_d_4_6, k_d_4_7, k_d_4_8, k_d_4_9, k_d_4_10, k_d_4_11, k_d_4_12, k_d_4_13, k_d_4_14, k_d_4_15, k_d_4_16, k_d_4_17, k_d_4_18, k_d_4_19]
  rfl
theorem k_d_t {n c : Nat} (hn : n ≤ 4) (hc : c ∈ LL n) : k_d n c = true := by
  match n, hn with
  | 0, _ => exact List.all_eq_true.mp k_d_0 c hc
  | 1, _ => exact List.all_eq_true.mp k_d_1 c hc
  | 2, _ => exact List.all_eq_true.mp k_d_2 c hc
  | 3, _ => exact List.all_eq_true.mp k_d_3 c hc
  | 4, _ => exact List.all_eq_true.mp k_d_4 c hc
set_option maxRecDepth 100000 in
theorem k_e_0 : (LL 0).all (k_e 0) = true := by decide +kernel
set_option maxRecDepth 100000 in
theorem k_e_1 : (LL 1).all (k_e 1) = true := by decide +kernel
set_option maxRecDepth 100000 in
theorem k_e_2 : (LL 2).all (k_e 2) = true := by decide +kernel
set_option maxRecDepth 100000 in
theorem k_e_3 : (LL 3).all (k_e 3) = true := by decide +kernel
set_option maxRecDepth 100000 in
theorem k_e_4_0 : L4_0.all (k_e 4) = true := by decide +kernel
set_option maxRecDepth 100000 in
theorem k_e_4_1 : L4_1.all (k_e 4) = true := by decide +kernel
set_option maxRecDepth 100000 in
theorem k_e_4_2 : L4_2.all (k_e 4) = true := by decide +kernel
set_option maxRecDepth 100000 in
theorem k_e_4_3 : L4_3.all (k_e 4) = true := by decide +kernel
set_option maxRecDepth 100000 in
theorem k_e_4_4 : L4_4.all (k_e 4) = true := by decide +kernel
set_option maxRecDepth 100000 in
theorem k_e_4_5 : L4_5.all (k_e 4) = true := by decide +kernel
set_option maxRecDepth 100000 in
theorem k_e_4_6 : L4_6.all (k_e 4) = true := by decide +kernel
set_option maxRecDepth 100000 in
theorem k_e_4_7 : L4_7.all (k_e 4) = true := by decide +kernel
set_option maxRecDepth 100000 in
theorem k_e_4_8 : L4_8.all (k_e 4) = true := by decide +kernel
set_option maxRecDepth 100000 in
theorem k_e_4_9 : L4_9.all (k_e 4) = true := by decide +kernel
set_option maxRecDepth 100000 in
theorem k_e_4_10 : L4_10.all (k_e 4) = true := by decide +kernel
set_option maxRecDepth 100000 in
theorem k_e_4_11 : L4_11.all (k_e 4) = true := by decide +kernel
set_option maxRecDepth 100000 in
theorem k_e_4_12 : L4_12.all (k_e 4) = true := by decide +kernel
set_option maxRecDepth 100000 in
theorem k_e_4_13 : L4_13.all (k_e 4) = true := by decide +kernel
set_option maxRecDepth 100000 in
theorem k_e_4_14 : L4_14.all (k_e 4) = true := by decide +kernel
set_option maxRecDepth 100000 in
theorem k_e_4_15 : L4_15.all (k_e 4) = true := by decide +kernel
set_option maxRecDepth 100000 in
theorem k_e_4_16 : L4_16.all (k_e 4) = true := by decide +kernel
set_option maxRecDepth 100000 in
theorem k_e_4_17 : L4_17.all (k_e 4) = true := by decide +kernel
set_option maxRecDepth 100000 in
theorem k_e_4_18 : L4_18.all (k_e 4) = true := by decide +kernel
set_option maxRecDepth 100000 in
theorem k_e_4_19 : L4_19.all (k_e 4) = true := by decide +kernel
theorem k_e_4 : (LL 4).all (k_e 4) = true := by
  show (L4_0 ++ L4_1 ++ L4_2 ++ L4_3 ++ L4_4 ++ L4_5 ++ L4_6 ++ L4_7 ++ L4_8 ++ L4_9 ++ L4_10 ++ L4_11 ++ L4_12 ++ L4_13 ++ L4_14 ++ L4_15 ++ L4_16 ++ L4_17 ++ L4_18 ++ L4_19).all (k_e 4) = true
  rw [List.all_append, List.all_append, List.all_append, List.all_append, List.all_append, List.all_append, List.all_append, List.all_append, List.all_append, List.all_append, List.all_append, List.all_append, List.all_append, List.all_append, List.all_append, List.all_append, List.all_append, List.all_append, List.all_append]
  simp only [k_e_4_0, k_e_4_1, k_e_4_2, k_e_4_3, k_e_4_4, k_e_4_5, k_e_4_6, k_e_4_7, k_e_4_8, k_e_4_9, k_e_4_10, k_e_4_11, k_e_4_12, k_e_4_13, k_e_4_14, k_e_4_15, k_e_4_16, k_e_4_17, k_e_4_18, k_e_4_19]
  rfl
theorem k_e_t {n c : Nat} (hn : n ≤ 4) (hc : c ∈ LL n) : k_e n c = true := by
  match n, hn with
  | 0, _ => exact List.all_eq_true.mp k_e_0 c hc
  | 1, _ => exact List.all_eq_true.mp k_e_1 c hc
  | 2, _ => exact List.all_eq_true.mp k_e_2 c hc
  | 3, _ => exact List.all_eq_true.mp k_e_3 c hc
  | 4, _ => exact List.all_eq_true.mp k_e_4 c hc
