/-! The codes of bays, one by one: what moves lead to. -/
set_option maxRecDepth 100000 in
theorem k_b_0 : (LL 0).all (k_b 0) = true := by decide +kernel
set_option maxRecDepth 100000 in
theorem k_b_1 : (LL 1).all (k_b 1) = true := by decide +kernel
set_option maxRecDepth 100000 in
theorem k_b_2 : (LL 2).all (k_b 2) = true := by decide +kernel
set_option maxRecDepth 100000 in
theorem k_b_3 : (LL 3).all (k_b 3) = true := by decide +kernel
set_option maxRecDepth 100000 in
theorem k_b_4_0 : L4_0.all (k_b 4) = true := by decide +kernel
set_option maxRecDepth 100000 in
theorem k_b_4_1 : L4_1.all (k_b 4) = true := by decide +kernel
set_option maxRecDepth 100000 in
theorem k_b_4_2 : L4_2.all (k_b 4) = true := by decide +kernel
set_option maxRecDepth 100000 in
theorem k_b_4_3 : L4_3.all (k_b 4) = true := by decide +kernel
set_option maxRecDepth 100000 in
theorem k_b_4_4 : L4_4.all (k_b 4) = true := by decide +kernel
set_option maxRecDepth 100000 in
theorem k_b_4_5 : L4_5.all (k_b 4) = true := by decide +kernel
set_option maxRecDepth 100000 in
theorem k_b_4_6 : L4_6.all (k_b 4) = true := by decide +kernel
set_option maxRecDepth 100000 in
theorem k_b_4_7 : L4_7.all (k_b 4) = true := by decide +kernel
set_option maxRecDepth 100000 in
theorem k_b_4_8 : L4_8.all (k_b 4) = true := by decide +kernel
set_option maxRecDepth 100000 in
theorem k_b_4_9 : L4_9.all (k_b 4) = true := by decide +kernel
set_option maxRecDepth 100000 in
theorem k_b_4_10 : L4_10.all (k_b 4) = true := by decide +kernel
set_option maxRecDepth 100000 in
theorem k_b_4_11 : L4_11.all (k_b 4) = true := by decide +kernel
set_option maxRecDepth 100000 in
theorem k_b_4_12 : L4_12.all (k_b 4) = true := by decide +kernel
set_option maxRecDepth 100000 in
theorem k_b_4_13 : L4_13.all (k_b 4) = true := by decide +kernel
set_option maxRecDepth 100000 in
theorem k_b_4_14 : L4_14.all (k_b 4) = true := by decide +kernel
set_option maxRecDepth 100000 in
theorem k_b_4_15 : L4_15.all (k_b 4) = true := by decide +kernel
set_option maxRecDepth 100000 in
theorem k_b_4_16 : L4_16.all (k_b 4) = true := by decide +kernel
set_option maxRecDepth 100000 in
theorem k_b_4_17 : L4_17.all (k_b 4) = true := by decide +kernel
set_option maxRecDepth 100000 in
theorem k_b_4_18 : L4_18.all (k_b 4) = true := by decide +kernel
set_option maxRecDepth 100000 in
theorem k_b_4_19 : L4_19.all (k_b 4) = true := by decide +kernel
theorem k_b_4 : (LL 4).all (k_b 4) = true := by
  show (L4_0 ++ L4_1 ++ L4_2 ++ L4_3 ++ L4_4 ++ L4_5 ++ L4_6 ++ L4_7 ++ L4_8 ++ L4_9 ++ L4_10 ++ L4_11 ++ L4_12 ++ L4_13 ++ L4_14 ++ L4_15 ++ L4_16 ++ L4_17 ++ L4_18 ++ L4_19).all (k_b 4) = true
  rw [List.all_append, List.all_append, List.all_append, List.all_append, List.all_append, List.all_append, List.all_append, List.all_append, List.all_append, List.all_append, List.all_append, List.all_append, List.all_append, List.all_append, List.all_append, List.all_append, List.all_append, List.all_append, List.all_append]
  simp only [k_b_4_0, k_b_4_1, k_b_4_2, k_b_4_3, k_b_4_4, k_b_4_5, k_b_4_6, k_b_4_7, k_b_4_8, k_b_4_9, k_b_4_10, k_b_4_11, k_b_4_12, k_b_4_13, k_b_4_14, k_b_4_15, k_b_4_16, k_b_4_17, k_b_4_18, k_b_4_19]
  rfl
theorem k_b_t {n c : Nat} (hn : n ≤ 4) (hc : c ∈ LL n) : k_b n c = true := by
  match n, hn with
  | 0, _ => exact List.all_eq_true.mp k_b_0 c hc
  | 1, _ => exact List.all_eq_true.mp k_b_1 c hc
  | 2, _ => exact List.all_eq_true.mp k_b_2 c hc
  | 3, _ => exact List.all_eq_true.mp k_b_3 c hc
  | 4, _ => exact List.all_eq_true.mp k_b_4 c hc
