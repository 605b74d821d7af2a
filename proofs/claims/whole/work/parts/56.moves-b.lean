/-! A move of the reference is a move of codes. -/
def k_f (n c : Nat) : Bool := allN (fun k => Nat.blt (pl c k) 14) n && Nat.blt c (2 ^ (4 * n))
set_option maxRecDepth 100000 in
theorem k_f_0 : (LL 0).all (k_f 0) = true := by decide +kernel
set_option maxRecDepth 100000 in
theorem k_f_1 : (LL 1).all (k_f 1) = true := by decide +kernel
set_option maxRecDepth 100000 in
theorem k_f_2 : (LL 2).all (k_f 2) = true := by decide +kernel
set_option maxRecDepth 100000 in
theorem k_f_3 : (LL 3).all (k_f 3) = true := by decide +kernel
set_option maxRecDepth 100000 in
theorem k_f_4_0 : L4_0.all (k_f 4) = true := by decide +kernel
set_option maxRecDepth 100000 in
theorem k_f_4_1 : L4_1.all (k_f 4) = true := by decide +kernel
set_option maxRecDepth 100000 in
theorem k_f_4_2 : L4_2.all (k_f 4) = true := by decide +kernel
set_option maxRecDepth 100000 in
theorem k_f_4_3 : L4_3.all (k_f 4) = true := by decide +kernel
set_option maxRecDepth 100000 in
theorem k_f_4_4 : L4_4.all (k_f 4) = true := by decide +kernel
set_option maxRecDepth 100000 in
theorem k_f_4_5 : L4_5.all (k_f 4) = true := by decide +kernel
set_option maxRecDepth 100000 in
theorem k_f_4_6 : L4_6.all (k_f 4) = true := by decide +kernel
set_option maxRecDepth 100000 in
theorem k_f_4_7 : L4_7.all (k_f 4) = true := by decide +kernel
set_option maxRecDepth 100000 in
theorem k_f_4_8 : L4_8.all (k_f 4) = true := by decide +kernel
set_option maxRecDepth 100000 in
theorem k_f_4_9 : L4_9.all (k_f 4) = true := by decide +kernel
set_option maxRecDepth 100000 in
theorem k_f_4_10 : L4_10.all (k_f 4) = true := by decide +kernel
set_option maxRecDepth 100000 in
theorem k_f_4_11 : L4_11.all (k_f 4) = true := by decide +kernel
set_option maxRecDepth 100000 in
theorem k_f_4_12 : L4_12.all (k_f 4) = true := by decide +kernel
set_option maxRecDepth 100000 in
theorem k_f_4_13 : L4_13.all (k_f 4) = true := by decide +kernel
set_option maxRecDepth 100000 in
theorem k_f_4_14 : L4_14.all (k_f 4) = true := by decide +kernel
set_option maxRecDepth 100000 in
theorem k_f_4_15 : L4_15.all (k_f 4) = true := by decide +kernel
set_option maxRecDepth 100000 in
theorem k_f_4_16 : L4_16.all (k_f 4) = true := by decide +kernel
set_option maxRecDepth 100000 in
theorem k_f_4_17 : L4_17.all (k_f 4) = true := by decide +kernel
set_option maxRecDepth 100000 in
theorem k_f_4_18 : L4_18.all (k_f 4) = true := by decide +kernel
set_option maxRecDepth 100000 in
theorem k_f_4_19 : L4_19.all (k_f 4) = true := by decide +kernel
theorem k_f_4 : (LL 4).all (k_f 4) = true := by
  show (L4_0 ++ L4_1 ++ L4_2 ++ L4_3 ++ L4_4 ++ L4_5 ++ L4_6 ++ L4_7 ++ L4_8 ++ L4_9 ++ L4_10 ++ L4_11 ++ L4_12 ++ L4_13 ++ L4_14 ++ L4_15 ++ L4_16 ++ L4_17 ++ L4_18 ++ L4_19).all (k_f 4) = true
  rw [List.all_append, List.all_append, List.all_append, List.all_append, List.all_append, List.all_append, List.all_append, List.all_append, List.all_append, List.all_append, List.all_append, List.all_append, List.all_append, List.all_append, List.all_append, List.all_append, List.all_append, List.all_append, List.all_append]
  simp only [k_f_4_0, k_f_4_1, k_f_4_2, k_f_4_3, k_f_4_4, k_f_4_5, k_f_4_6, k_f_4_7, k_f_4_8, k_f_4_9, k_f_4_10, k_f_4_11, k_f_4_12, k_f_4_13, k_f_4_14, k_f_4_15, k_f_4_16, k_f_4_17, k_f_4_18, k_f_4_19]
  rfl
theorem k_f_t {n c : Nat} (hn : n ≤ 4) (hc : c ∈ LL n) : k_f n c = true := by
  match n, hn with
  | 0, _ => exact List.all_eq_true.mp k_f_0 c hc
  | 1, _ => exact List.all_eq_true.mp k_f_1 c hc
  | 2, _ => exact List.all_eq_true.mp k_f_2 c hc
  | 3, _ => exact List.all_eq_true.mp k_f_3 c hc
  | 4, _ => exact List.all_eq_true.mp k_f_4 c hc
set_option maxRecDepth 100000 in
theorem LL_0 : (LL 0).length ≤ 1240 := by decide +kernel
set_option maxRecDepth 100000 in
theorem LL_1 : (LL 1).length ≤ 1240 := by decide +kernel
set_option maxRecDepth 100000 in
theorem LL_2 : (LL 2).length ≤ 1240 := by decide +kernel
set_option maxRecDepth 100000 in
theorem LL_3 : (LL 3).length ≤ 1240 := by decide +kernel
set_option maxRecDepth 100000 in
theorem LL_4 : (LL 4).length ≤ 1240 := by decide +kernel
theorem LL_len {n : Nat} (hn : n ≤ 4) : (LL n).length ≤ 1240 := by
  have h : n = 0 ∨ n = 1 ∨ n = 2 ∨ n = 3 ∨ n = 4 := by omega
  rcases h with h | h | h | h | h <;> subst h
  · exact LL_0
  · exact LL_1
  · exact LL_2
  · exact LL_3
  · exact LL_4
section EX
variable {n t c : Nat}
theorem Vd.p14 (h : Vd n t c) (hn : n ≤ 4) {k : Nat} (hk : k < n) : pl c k < 14 := nlt_ (allN_at (band (k_f_t hn h.1)).1 hk)
theorem Vd.c16 (h : Vd n t c) (hn : n ≤ 4) : c < 2 ^ (4 * n) := nlt_ (band (k_f_t hn h.1)).2
theorem Vd.lt (h : Vd n t c) (hn : n ≤ 4) : ew c n < 2 ^ 44 := ew_lt hn (fun k hk => h.p14 hn hk)
theorem Vd.up (h : Vd n t c) (t4 : t ≤ 4) : Vd n 4 c := ⟨h.1, fun s hs => Nat.le_trans (h.2 s hs) t4⟩
theorem stk_le (hn : n ≤ 4) (f : Nat) : stk n c f ≤ n := by
  unfold stk
  cases Nat.blt f 3 with
  | true => exact tp_le c f n
  | false =>
    have key : ∀ m l, atj c l m ≤ m := fun m l => by
      induction m with
      | zero => exact Nat.le_refl 0
      | succ m ih =>
        by_cases h0 : atj c l m = 0
        · by_cases h : pl c m = 13 ∧ asc c m = l
          · rw [atj_t h0 h.1 h.2]
            exact Nat.le_refl _
          · rw [atj_f h0 h]
            exact Nat.zero_le _
        · rw [atj_k h0]
          omega
    exact key n (f - 3)
theorem smv_mem {ml : Nat → Bool} (hn : n ≤ 4) {f to : Nat} (hf : f < 7) (hto : to < 5) {y : Nat × Nat} (hy : y ∈ smv n t c f to ml) : y ∈ suc n t ml c := by
  rw [← sml_suc hn (asc_le c n)]
  have key : ∀ p, 5 * f + to < p → y ∈ sml n t c ml p := fun p hp => by
    induction p with
    | zero => omega
    | succ p ih =>
      show y ∈ sml n t c ml p ++ smv n t c (p / 5) (p % 5) ml
      rcases Nat.lt_or_ge (5 * f + to) p with q | q
      · exact List.mem_append_left _ (ih q)
      · have e : p = 5 * f + to := by omega
        subst e
        rw [show (5 * f + to) / 5 = f by omega, show (5 * f + to) % 5 = to by omega]
        exact List.mem_append_right _ hy
  exact key 35 (by omega)
theorem rv_t {k f to : Nat} (hto : to < 5) (h : Vd n t c) (hn : n ≤ 4) (t4 : t ≤ 4) : rv t (ew c n) k f to = rv 4 (ew c n) k f to := by
  have e : ∀ s, s < 3 → rtop (ew c n) s t = rtop (ew c n) s 4 := fun s hs => (h.top hn t4 hs).trans ((h.up t4).top hn (Nat.le_refl 4) hs).symm
  by_cases hf : f < 3
  · rw [rv_lo hf, rv_lo hf, e f hf]
    by_cases h4 : to = 4
    · rw [if_pos h4, if_pos h4]
    · by_cases h3 : to = 3
      · rw [if_neg h4, if_neg h4, if_pos h3, if_pos h3]
      · rw [if_neg h4, if_neg h4, if_neg h3, if_neg h3]
        rcases Nat.lt_or_ge to 3 with q | q
        · rw [e to q]
        · omega
  · rw [rv_hi hf, rv_hi hf]
    by_cases h4 : to = 4
    · rw [if_pos h4, if_pos h4]
    · by_cases h3 : to = 3
      · rw [if_neg h4, if_neg h4, if_pos h3, if_pos h3]
      · rw [if_neg h4, if_neg h4, if_neg h3, if_neg h3]
        rcases Nat.lt_or_ge to 3 with q | q
        · rw [e to q]
        · omega
/-- what moved answers, said of codes -/
theorem sm_W {ml : Nat → Bool} (h : Vd n t c) (hn : n ≤ 4) (t4 : t ≤ 4) {f to : Nat} (hf : f < 7) (hto : to < 5) : (rtk n t (ew c n) f = 0 → smv n t c f to ml = []) ∧ ∀ k, rtk n t (ew c n) f = k + 1 → (rno t (ew c n) k f to ml = true → smv n t c f to ml = []) ∧ (rno t (ew c n) k f to ml = false → smv n t c f to ml = [(wp c k (spl n c to), 64 * k + 8 * f + to)] ∧ rv t (ew c n) k f to = ew (wp c k (spl n c to)) n ∧ k < n) := by
  rw [h.tk hn t4 hf]
  refine ⟨fun e => smv_0 e, fun k e => ?_⟩
  have hs' : sno n t c k f to ml = rno t (ew c n) k f to ml := by
    unfold sno rno
    have e3 : (Nat.blt to 3 && !Nat.blt (hs c to n) t) = (Nat.blt to 3 && Nat.beq (rtop (ew c n) to t) t) := by
      rw [nld, nld, nbd]
      by_cases q : to < 3
      · have l := h.2 to q
        rw [h.top hn t4 q, decide_eq_true q, Bool.true_and, Bool.true_and]
        by_cases w : hs c to n < t
        · rw [decide_eq_true w, decide_eq_false (by omega)]
          rfl
        · rw [decide_eq_false w, decide_eq_true (by omega)]
          rfl
      · rw [decide_eq_false q]
        rfl
    rw [e3]
  have un : smv n t c f to ml = bif rno t (ew c n) k f to ml then [] else [(wp c k (spl n c to), 64 * k + 8 * f + to)] := by
    unfold smv
    rw [e, Nat.add_sub_cancel, hs']
    rfl
  have hk := stk_le (c := c) hn f
  refine ⟨fun q => by rw [un, q]; rfl, fun q => ?_⟩
  have e1 : smv n t c f to ml = [(wp c k (spl n c to), 64 * k + 8 * f + to)] := by rw [un, q]; rfl
  refine ⟨e1, ?_, by omega⟩
  have hm : ((wp c k (spl n c to), 64 * k + 8 * f + to) : Nat × Nat) ∈ suc n t ml c := smv_mem hn hf hto (by rw [e1]; exact List.mem_singleton.mpr rfl)
  have hw := h.way hn t4 hm
  rw [rv_t hto h hn t4]
  have a1 : (64 * k + 8 * f + to) / 64 = k := by omega
  have a2 : (64 * k + 8 * f + to) / 8 % 8 = f := by omega
  have a3 : (64 * k + 8 * f + to) % 8 = to := by omega
  have hw : rv 4 (ew c n) ((64 * k + 8 * f + to) / 64) ((64 * k + 8 * f + to) / 8 % 8) ((64 * k + 8 * f + to) % 8) = ew (wp c k (spl n c to)) n := hw
  rw [a1, a2, a3] at hw
  exact hw
theorem adl_app (p : Nat) (Q : List qE) (l l' : List (Nat × Nat)) : adl p Q (l ++ l') = adl p (adl p Q l) l' := List.foldl_append
theorem Qv.room {Q : List qE} (hQ : Qv (Vd n t) Q) (h : Vd n t c) (hn : n ≤ 4) : Q.length < 1240 ∨ c ∈ qc Q := by
  by_cases hm : c ∈ qc Q
  · exact Or.inr hm
  · refine Or.inl ?_
    have h2 : Qv (Vd n t) (Q ++ [((c, 0, 0) : qE)]) := by
      have := hQ.a1 (x := ((c, 0, 0) : qE)) h
      rwa [show ad1 Q ((c, 0, 0) : qE) = Q ++ [((c, 0, 0) : qE)] from if_neg hm] at this
    have := h2.len (l := LL n) (fun c hc => hc.1)
    have l := LL_len hn
    rw [List.length_append] at this
    have e : [((c, 0, 0) : qE)].length = 1 := rfl
    omega
theorem Qv.l1240 {Q : List qE} (hQ : Qv (Vd n t) Q) (hn : n ≤ 4) : Q.length ≤ 1240 := Nat.le_trans (hQ.len (l := LL n) (fun c hc => hc.1)) (LL_len hn)
theorem wl_nm1 {a : Nat} (h : a < 2 ^ 62) : ¬ lN a = px_jc (-1) := fun w => by
  have := congrArg Int64.toInt w
  rw [pk_lT (by omega), show (px_jc (-1)).toInt = -1 from by decide] at this
  omega
end EX
