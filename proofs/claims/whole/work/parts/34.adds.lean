/-! What the search knows of a bay's boxes; its queue comes from before. -/
def bjs (σ : ck_S) (x : Int32) : Nat → List Nat
  | 0 => []
  | i + 1 => if cs_bf σ i 1 = x ∧ ¬ cs_bf σ i 2 = 3 then bjs σ x i ++ [i] else bjs σ x i
theorem bjs_len (σ : ck_S) (x : Int32) : ∀ i, (bjs σ x i).length = pn_ct (fun j => decide (cs_bf σ j 1 = x ∧ ¬ cs_bf σ j 2 = 3)) i
  | 0 => rfl
  | i + 1 => by
    have ih := bjs_len σ x i
    by_cases h : cs_bf σ i 1 = x ∧ ¬ cs_bf σ i 2 = 3
    · rw [show bjs σ x (i + 1) = bjs σ x i ++ [i] from if_pos h, List.length_append, ih, pn_ct_t (decide_eq_true h)]
      rfl
    · rw [show bjs σ x (i + 1) = bjs σ x i from if_neg h, ih, pn_ct_f (decide_eq_false h)]
theorem pn_ct_mono (p : Nat → Bool) {i n : Nat} (h : i ≤ n) : pn_ct p i ≤ pn_ct p n := by
  induction n with
  | zero => rw [Nat.le_zero.mp h]; exact Nat.le_refl _
  | succ n ih =>
    rcases Nat.lt_or_ge i (n + 1) with h2 | h2
    · exact Nat.le_trans (ih (by omega)) (Nat.le_add_right _ _)
    · rw [show i = n + 1 by omega]
      exact Nat.le_refl _
theorem bjs_at (σ : ck_S) (x : Int32) : ∀ i (k j : Nat), (bjs σ x i)[k]? = some j → j < i ∧ cs_bf σ j 1 = x ∧ ¬ cs_bf σ j 2 = 3
  | 0, k, j, h => by simp [bjs] at h
  | i + 1, k, j, h => by
    have ih := bjs_at σ x i
    by_cases hq : cs_bf σ i 1 = x ∧ ¬ cs_bf σ i 2 = 3
    · rw [show bjs σ x (i + 1) = bjs σ x i ++ [i] from if_pos hq] at h
      rcases Nat.lt_or_ge k (bjs σ x i).length with hk | hk
      · rw [List.getElem?_append_left hk] at h
        have := ih k j h
        exact ⟨by omega, this.2⟩
      · rw [List.getElem?_append_right hk] at h
        have hj : j = i := by
          have := List.mem_of_getElem? h
          simpa using this
        subst hj
        exact ⟨by omega, hq⟩
    · rw [show bjs σ x (i + 1) = bjs σ x i from if_neg hq] at h
      have := ih k j h
      exact ⟨by omega, this.2⟩
/-- a box's place -/
def plc (σ : ck_S) (j : Nat) : Nat := if cs_bf σ j 2 = 4 then 13 else (cs_bf σ j 2).toNatClampNeg * 4 + (cs_bf σ j 3).toNatClampNeg
/-- a box's stack and tier -/
def cs_rg (σ : ck_S) : Prop := ∀ j, j < cs_n σ → cs_bf σ j 2 = 3 ∨ cs_bf σ j 2 = 4 ∨ ∃ s t : Nat, s < 3 ∧ t < 4 ∧ cs_bf σ j 2 = nI s ∧ cs_bf σ j 3 = nI t
theorem ie_lv1 : ∀ n, n < 4 → ∀ m, m < 8 → m < 2 ^ n → (nI m ||| ((1 : Int32) <<< (nI n &&& 31))) = nI (m + 2 ^ n) ∧ (nI m ||| ((0 : Int32) <<< (nI n &&& 31))) = nI m := by decide +kernel
theorem ie_lv2 : ∀ n, n < 4 → ∀ m, m < 8 → m < 2 ^ n → ∀ k, k < n → ((((nI (m + 2 ^ n)) >>> (nI k &&& 31)) &&& 1 = 0) ↔ ((nI m >>> (nI k &&& 31)) &&& 1 = 0)) := by decide +kernel
theorem ie_lv3 : ∀ n, n < 4 → ∀ m, m < 8 → m < 2 ^ n → ¬ (((nI (m + 2 ^ n)) >>> (nI n &&& 31)) &&& 1 = 0) ∧ (((nI m) >>> (nI n &&& 31)) &&& 1 = 0) := by decide +kernel
theorem pl_add {c p n : Nat} (hn : n < 4) (hc : c < 2 ^ (4 * n)) (hp : p < 16) : pl (c + p * 2 ^ (4 * n)) n = p ∧ ∀ k, k < n → pl (c + p * 2 ^ (4 * n)) k = pl c k := by
  unfold pl
  match n, hn with
  | 0, _ => exact ⟨by omega, fun k hk => absurd hk (Nat.not_lt_zero k)⟩
  | 1, _ =>
    refine ⟨by omega, fun k hk => ?_⟩
    match k, hk with
    | 0, _ => omega
  | 2, _ =>
    refine ⟨by omega, fun k hk => ?_⟩
    match k, hk with
    | 0, _ => omega
    | 1, _ => omega
  | 3, _ =>
    refine ⟨by omega, fun k hk => ?_⟩
    match k, hk with
    | 0, _ => omega
    | 1, _ => omega
    | 2, _ => omega
theorem ie_ad0 {c p N s : Nat} (hc : c < 2 ^ N) (hp : p < 16) (t : Int32) (hs : (t.toBitVec.smod 32).toNat = N) (hlt : p * 2 ^ N < 2 ^ 32) : nI c ||| ((nI p &&& 15) <<< t) = nI (c + p * 2 ^ N) := by
  have h1 : nI p &&& 15 = nI p := by rw [pk_andN (by omega) 4 (by decide +kernel), Nat.mod_eq_of_lt hp]
  have h2 : c ||| p * 2 ^ N = c + p * 2 ^ N := by
    have h := Nat.two_pow_add_eq_or_of_lt hc p
    rw [Nat.or_comm, Nat.mul_comm p (2 ^ N), ← h, Nat.add_comm]
  rw [h1, pk_shlN t N hs hlt, nI_or, h2]
theorem ie_ad {c p n : Nat} (hn : n < 4) (hc : c < 2 ^ (4 * n)) (hp : p < 16) : nI c ||| ((nI p &&& 15) <<< ((nI n * 4) &&& 31)) = nI (c + p * 2 ^ (4 * n)) := by
  have h4 : n = 0 ∨ n = 1 ∨ n = 2 ∨ n = 3 := by omega
  refine ie_ad0 (s := 0) hc hp _ ?_ ?_
  · rcases h4 with h | h | h | h <;> rw [h] <;> decide +kernel
  · rcases h4 with h | h | h | h <;> rw [h] <;> omega
/-- the search's boxes are those of js, its start the code c0 -/
def Ad (σ σ1 : ck_S) (js : List Nat) (c0 : Nat) : Prop := (∃ J, σ1 = cs_jk σ J ∧ J.2.1 = cs_sn σ) ∧ cs_si σ1 0 = nI js.length ∧ js.length ≤ 4 ∧ cs_si σ1 2 = nI c0 ∧ c0 < 2 ^ (4 * js.length) ∧ (∃ m, cs_si σ1 1 = nI m ∧ m < 2 ^ js.length) ∧
  ∀ k j : Nat, js[k]? = some j → cs_sa σ1 0 k = nI j ∧ cs_sa σ1 1 k = cs_bf σ j 4 ∧ cs_lv σ1 k = decide (cs_bf σ j 0 = 0) ∧ pl c0 k = plc σ j
theorem Ad.add {σ σ1 : ck_S} {js : List Nat} {c0 : Nat} (h : Ad σ σ1 js c0) {j : Nat} (h4 : js.length < 4) {pv lb : Int32} (hpv : pv = nI (plc σ j)) (hp : plc σ j < 16) (hlb : (cs_bf σ j 0 = 0 ∧ lb = 1) ∨ (¬ cs_bf σ j 0 = 0 ∧ lb = 0)) : Ad σ (cs_ad σ1 j js.length pv lb) (js ++ [j]) (c0 + plc σ j * 2 ^ (4 * js.length)) := by
  obtain ⟨⟨J, rfl, hJ⟩, h0, hl, h2, hc, ⟨m, hm, hm2⟩, hk⟩ := h
  have hm8 : m < 8 := Nat.lt_of_lt_of_le hm2 (show 2 ^ js.length ≤ 2 ^ 3 from Nat.pow_le_pow_right (by decide) (by omega))
  have L1 := ie_lv1 js.length h4 m hm8 hm2
  have L2 := ie_lv2 js.length h4 m hm8 hm2
  have L3 := ie_lv3 js.length h4 m hm8 hm2
  have hsi1 : cs_si (cs_ad (cs_jk σ J) j js.length pv lb) 1 = nI m ||| (lb <<< (nI js.length &&& 31)) := by
    rw [← hm]
    rfl
  refine ⟨⟨_, rfl, hJ⟩, ?_, ?_, ?_, ?_, ?_, ?_⟩
  · rw [List.length_append]
    exact (nI_succ _).symm
  · rw [List.length_append]
    exact h4
  · show cs_si (cs_jk σ J) 2 ||| ((pv &&& 15) <<< ((nI js.length * 4) &&& 31)) = _
    rw [h2, hpv]
    exact ie_ad h4 hc hp
  · rw [List.length_append]
    show _ < 2 ^ (4 * (js.length + 1))
    rw [show 4 * (js.length + 1) = 4 * js.length + 4 by omega, Nat.pow_add]
    have : plc σ j * 2 ^ (4 * js.length) ≤ 15 * 2 ^ (4 * js.length) := Nat.mul_le_mul_right _ (by omega)
    omega
  · rw [hsi1, List.length_append]
    rcases hlb with ⟨-, hlb⟩ | ⟨-, hlb⟩
    · refine ⟨m + 2 ^ js.length, ?_, ?_⟩
      · rw [hlb]
        exact L1.1
      · show _ < 2 ^ (js.length + 1)
        rw [Nat.pow_succ]
        omega
    · refine ⟨m, ?_, ?_⟩
      · rw [hlb]
        exact L1.2
      · exact Nat.lt_of_lt_of_le hm2 (Nat.pow_le_pow_right (by decide) (Nat.le_add_right _ _))
  · intro k i hki
    have hlv : ∀ k, cs_lv (cs_ad (cs_jk σ J) j js.length pv lb) k = !decide (((nI m ||| (lb <<< (nI js.length &&& 31))) >>> (nI k &&& 31)) &&& 1 = 0) := fun k => by
      unfold cs_lv
      rw [hsi1]
    have hlv0 : ∀ k, cs_lv (cs_jk σ J) k = !decide ((nI m >>> (nI k &&& 31)) &&& 1 = 0) := fun k => by
      unfold cs_lv
      rw [hm]
    rcases Nat.lt_or_ge k js.length with hkl | hkl
    · rw [List.getElem?_append_left hkl] at hki
      obtain ⟨a1, a2, a3, a4⟩ := hk k i hki
      refine ⟨?_, ?_, ?_, ?_⟩
      · show upd (cs_sa (cs_jk σ J) 0) js.length (nI j) k = _
        rw [pk_un (by omega)]
        exact a1
      · show upd (cs_sa (cs_jk σ J) 1) js.length _ k = _
        rw [pk_un (by omega)]
        exact a2
      · rw [hlv k, ← a3, hlv0 k]
        rcases hlb with ⟨-, hlb⟩ | ⟨-, hlb⟩
        · rw [hlb, L1.1]
          exact congrArg (fun b => !b) (decide_eq_decide.mpr (L2 k hkl))
        · rw [hlb, L1.2]
      · rw [(pl_add h4 hc hp).2 k hkl]
        exact a4
    · rw [List.getElem?_append_right hkl] at hki
      have hkk : k = js.length := by
        have := (List.getElem?_eq_some_iff.mp hki).1
        simp at this
        omega
      have hij : i = j := by
        have := List.mem_of_getElem? hki
        simpa using this
      subst hij
      subst hkk
      refine ⟨?_, ?_, ?_, ?_⟩
      · show upd (cs_sa (cs_jk σ J) 0) js.length (nI i) js.length = _
        exact pk_us
      · show upd (cs_sa (cs_jk σ J) 1) js.length _ js.length = _
        rw [pk_us]
        rfl
      · rw [hlv]
        rcases hlb with ⟨hz, hlb⟩ | ⟨hz, hlb⟩
        · rw [hlb, L1.1, decide_eq_false L3.1, decide_eq_true hz]
          rfl
        · rw [hlb, L1.2, decide_eq_true L3.2, decide_eq_false hz]
          rfl
      · exact (pl_add h4 hc hp).1
