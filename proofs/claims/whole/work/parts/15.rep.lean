/-! The class's cells by numbers of their own: 0 the object, 1 bays, 2 boxes, 3 search, 4 .. 11 its arrays, 20 + 4 b a bay and its three arrays, 40 + j a box; the reference from 100 on; 200 the law's own array. -/
abbrev rp_K : Type := Nat → Option px_E
def rp_up (K : rp_K) (i : Nat) (e : px_E) : rp_K := fun j => if j = i then some e else K j
theorem rp_up_s (K : rp_K) (i : Nat) (e : px_E) : rp_up K i e i = some e := if_pos rfl
theorem rp_up_n (K : rp_K) {i j : Nat} (e : px_E) (h : j ≠ i) : rp_up K i e j = K j := if_neg h
def Rp (ad : Nat → Nat) (K : rp_K) (C : px_P) : Prop := (∀ i e, K i = some e → C (ad i) = some e) ∧ ∀ i j, (∃ e, K i = some e) → (∃ e, K j = some e) → ad i = ad j → i = j
theorem Rp.put {ad : Nat → Nat} {K : rp_K} {C : px_P} (h : Rp ad K C) {i : Nat} {e0 : px_E} (hi : K i = some e0) (e : px_E) : Rp ad (rp_up K i e) (px_up C (ad i) e) := by
  have hd : ∀ j, (∃ e1, rp_up K i e j = some e1) → ∃ e1, K j = some e1 := fun j ⟨e1, hj⟩ => by
    by_cases hji : j = i
    · exact ⟨e0, by rw [hji]; exact hi⟩
    · rw [rp_up_n K e hji] at hj
      exact ⟨e1, hj⟩
  refine ⟨fun j e1 hj => ?_, fun j k hj hk => h.2 j k (hd j hj) (hd k hk)⟩
  by_cases hji : j = i
  · rw [hji] at hj ⊢
    rw [rp_up_s] at hj
    rw [px_up_s]
    exact hj
  · rw [rp_up_n K e hji] at hj
    rw [px_up_n C e (fun q => hji (h.2 j i ⟨e1, hj⟩ ⟨e0, hi⟩ q))]
    exact h.1 j e1 hj
/-- a new cell gets the next number -/
theorem Rp.new {ad : Nat → Nat} {K : rp_K} {C : px_P} (h : Rp ad K C) {i q : Nat} (hi : K i = none) (hq : C q = none) (e : px_E) : Rp (va_up ad i q) (rp_up K i e) (px_up C q e) := by
  have hne : ∀ j e1, K j = some e1 → ad j ≠ q := fun j e1 hj w => by
    have := h.1 j e1 hj
    rw [w, hq] at this
    cases this
  have hij : ∀ j e1, K j = some e1 → j ≠ i := fun j e1 hj w => by
    rw [w, hi] at hj
    cases hj
  refine ⟨fun j e1 hj => ?_, fun j k ⟨e1, hj⟩ ⟨e2, hk⟩ w => ?_⟩
  · by_cases hji : j = i
    · rw [hji] at hj ⊢
      rw [rp_up_s] at hj
      rw [va_up_self, px_up_s]
      exact hj
    · rw [rp_up_n K e hji] at hj
      rw [va_up_ne ad q hji, px_up_n C e (hne j e1 hj)]
      exact h.1 j e1 hj
  · by_cases hji : j = i
    · by_cases hki : k = i
      · rw [hji, hki]
      · rw [rp_up_n K e hki] at hk
        rw [hji, va_up_self, va_up_ne ad q hki] at w
        exact absurd w.symm (hne k e2 hk)
    · rw [rp_up_n K e hji] at hj
      by_cases hki : k = i
      · rw [hki, va_up_self, va_up_ne ad q hji] at w
        exact absurd w (hne j e1 hj)
      · rw [rp_up_n K e hki] at hk
        rw [va_up_ne ad q hji, va_up_ne ad q hki] at w
        exact h.2 j k ⟨e1, hj⟩ ⟨e2, hk⟩ w
/-- the class's state: bays, tiers, boxes; moves worked, loads gone; boxes' fields; bays' numbers; bays' arrays; the search's arrays, its seen, its numbers -/
abbrev ck_S : Type := (Nat × Nat × Nat) × (Int32 × Int32) × (Nat → Nat → Int32) × (Nat → Nat → Int32) × (Nat → Nat → Nat → Int32) × (Nat → Nat → Int32) × (Nat → Int64) × (Nat → Int32)
abbrev cs_nb (σ : ck_S) : Nat := σ.1.1
abbrev cs_ti (σ : ck_S) : Nat := σ.1.2.1
abbrev cs_n (σ : ck_S) : Nat := σ.1.2.2
abbrev cs_mw (σ : ck_S) : Int32 := σ.2.1.1
abbrev cs_lg (σ : ck_S) : Int32 := σ.2.1.2
abbrev cs_bf (σ : ck_S) : Nat → Nat → Int32 := σ.2.2.1
abbrev cs_yf (σ : ck_S) : Nat → Nat → Int32 := σ.2.2.2.1
abbrev cs_ya (σ : ck_S) : Nat → Nat → Nat → Int32 := σ.2.2.2.2.1
abbrev cs_sa (σ : ck_S) : Nat → Nat → Int32 := σ.2.2.2.2.2.1
abbrev cs_sn (σ : ck_S) : Nat → Int64 := σ.2.2.2.2.2.2.1
abbrev cs_si (σ : ck_S) : Nat → Int32 := σ.2.2.2.2.2.2.2
abbrev cc_ob (ad : Nat → Nat) (σ : ck_S) : px_E := px_o 0 [.int (nI (cs_ti σ)), .ref (ad 1), .ref (ad 2), .ref (ad 3), .int (nI (cs_n σ)), .int (cs_mw σ), .int (cs_lg σ)]
abbrev cc_se (ad : Nat → Nat) (σ : ck_S) : px_E := px_o 3 [.int (nI (cs_ti σ)), .ref (ad 4), .ref (ad 5), .ref (ad 6), .ref (ad 7), .ref (ad 8), .ref (ad 9), .ref (ad 10), .ref (ad 11), .int (cs_si σ 0), .int (cs_si σ 1), .int (cs_si σ 2), .int (cs_si σ 3), .int (cs_si σ 4)]
abbrev cc_bay (ad : Nat → Nat) (σ : ck_S) (b : Nat) : px_E := px_o 1 [.ref (ad (21 + 4 * b)), .ref (ad (22 + 4 * b)), .ref (ad (23 + 4 * b)), .int (cs_yf σ b 0), .int (cs_yf σ b 1), .int (cs_yf σ b 2), .int (cs_yf σ b 3)]
abbrev cc_box (σ : ck_S) (j : Nat) : px_E := px_o 2 [.int (cs_bf σ j 0), .int (cs_bf σ j 1), .int (cs_bf σ j 2), .int (cs_bf σ j 3), .int (cs_bf σ j 4)]
/-- the class's cells lie in K as the state says -/
def Cl (ad : Nat → Nat) (σ : ck_S) (K : rp_K) : Prop :=
  (K 0 = some (cc_ob ad σ) ∧ K 1 = some (px_r 3 (cs_nb σ) (fun b => if b < cs_nb σ then some (ad (20 + 4 * b)) else none)) ∧ K 2 = some (px_r 4 16 (fun j => if j < cs_n σ then some (ad (40 + j)) else none)) ∧ K 3 = some (cc_se ad σ)) ∧
  (K 4 = some (px_i 4 (cs_sa σ 0)) ∧ K 5 = some (px_i 4 (cs_sa σ 1)) ∧ K 6 = some (px_i 3 (cs_sa σ 2)) ∧ K 7 = some (px_i 3 (cs_sa σ 3)) ∧ K 8 = some (px_i 1240 (cs_sa σ 4)) ∧ K 9 = some (px_i 1240 (cs_sa σ 5)) ∧ K 10 = some (px_i 1240 (cs_sa σ 6)) ∧ K 11 = some (px_j 1024 (cs_sn σ))) ∧
  (∀ b, b < cs_nb σ → K (20 + 4 * b) = some (cc_bay ad σ b) ∧ K (21 + 4 * b) = some (px_i 12 (cs_ya σ b 0)) ∧ K (22 + 4 * b) = some (px_i 12 (cs_ya σ b 1)) ∧ K (23 + 4 * b) = some (px_i 12 (cs_ya σ b 2))) ∧
  (∀ j, j < cs_n σ → K (40 + j) = some (cc_box σ j)) ∧ (∀ j, cs_n σ ≤ j → j < 16 → K (40 + j) = none) ∧ 1 ≤ cs_nb σ ∧ cs_nb σ ≤ 4 ∧ 1 ≤ cs_ti σ ∧ cs_ti σ ≤ 4 ∧ cs_n σ ≤ 16
abbrev px_no : Nat → px_P → Prop := fun _ _ => False
/-- an index by its number, or none -/
theorem px_ixx (x : Int32) (n : Nat) (hn : n < 2 ^ 31) : (∃ j, j < n ∧ x = nI j) ∨ (x < 0 ∨ nI n ≤ x) := by
  rcases pk_ix x hn with h | h | ⟨j, h1, h2⟩
  · exact Or.inr (Or.inl h)
  · exact Or.inr (Or.inr h)
  · exact Or.inl ⟨j, h1, h2⟩
section RC
variable {B : Nat} {sc : Option (Nat × Nat × (Nat → Int32))} {d : Nat} {ad : Nat → Nat} {σ : ck_S} {K : rp_K} {C : px_P}
theorem cc_bayAt (hR : Rp ad K C) (hc : Cl ad σ K) (x : Int32) : px_W ps_Y ps_P B sc (d + 1) 3 [.ref (ad 0), .int x] C 0 0 (fun v C' => C' = C ∧ ((∃ b, b < cs_nb σ ∧ x = nI b ∧ v = some (.ref (ad (20 + 4 * b)))) ∨ ((x < 0 ∨ nI (cs_nb σ) ≤ x) ∧ v = some .null))) px_no := by
  have h0 := hR.1 0 _ hc.1.1
  have h1 := hR.1 1 _ hc.1.2.1
  have hnb := hc.2.2.2.2.2.2.1
  refine ⟨pm_Mo_bayAt, rfl, Nat.le_of_ble_eq_true rfl, fun X hw hX => ?_⟩
  repeat refine px_go hX ?_
  refine ⟨fun c1 => ?_, fun c1 => ?_⟩
  · repeat refine px_go hX ?_
    exact ⟨rfl, Or.inr ⟨Or.inl c1, rfl⟩⟩
  · repeat refine px_go hX ?_
    refine ⟨_, _, h0, rfl, ?_⟩
    repeat refine px_go hX ?_
    refine ⟨cs_nb σ, by unfold px_len; rw [h1]; rfl, ?_⟩
    repeat refine px_go hX ?_
    refine ⟨fun c2 => ?_, fun c2 => ?_⟩
    · repeat refine px_go hX ?_
      exact ⟨rfl, Or.inr ⟨Or.inr c2, rfl⟩⟩
    · repeat refine px_go hX ?_
      refine ⟨_, _, h0, rfl, ?_⟩
      repeat refine px_go hX ?_
      rcases px_ixx x (cs_nb σ) (by omega) with ⟨j, hj, rfl⟩ | h | h
      · refine ⟨_, _, _, h1, ⟨Nat.le_refl 3, Nat.le_of_ble_eq_true rfl⟩, vp_in_nI hj (by omega), ?_⟩
        rw [nI_clamp (by omega), if_pos hj]
        repeat refine px_go hX ?_
        exact ⟨rfl, Or.inl ⟨j, hj, rfl, rfl⟩⟩
      · exact absurd h c1
      · exact absurd h c2
end RC
