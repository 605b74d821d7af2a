/-! Bays and their codes: stacks without gaps, plans that can be worked. -/
def k_g (n c : Nat) : Bool := allN (fun s => Nat.beq (hs c s n) (cnt c s n)) 3 && allN (fun k => Nat.ble 12 (pl c k) || Nat.blt (pl c k % 4) (cnt c (pl c k / 4) n)) n && allN (fun k => allN (fun j => Nat.beq j k || Nat.ble 12 (pl c k) || !Nat.beq (pl c j) (pl c k)) n) n
set_option maxRecDepth 100000 in
theorem k_g_0 : (LL 0).all (k_g 0) = true := by decide +kernel
set_option maxRecDepth 100000 in
theorem k_g_1 : (LL 1).all (k_g 1) = true := by decide +kernel
set_option maxRecDepth 100000 in
theorem k_g_2 : (LL 2).all (k_g 2) = true := by decide +kernel
set_option maxRecDepth 100000 in
theorem k_g_3 : (LL 3).all (k_g 3) = true := by decide +kernel
set_option maxRecDepth 100000 in
theorem k_g_4_0 : L4_0.all (k_g 4) = true := by decide +kernel
set_option maxRecDepth 100000 in
theorem k_g_4_1 : L4_1.all (k_g 4) = true := by decide +kernel
set_option maxRecDepth 100000 in
theorem k_g_4_2 : L4_2.all (k_g 4) = true := by decide +kernel
set_option maxRecDepth 100000 in
theorem k_g_4_3 : L4_3.all (k_g 4) = true := by decide +kernel
set_option maxRecDepth 100000 in
theorem k_g_4_4 : L4_4.all (k_g 4) = true := by decide +kernel
set_option maxRecDepth 100000 in
theorem k_g_4_5 : L4_5.all (k_g 4) = true := by decide +kernel
set_option maxRecDepth 100000 in
theorem k_g_4_6 : L4_6.all (k_g 4) = true := by decide +kernel
set_option maxRecDepth 100000 in
theorem k_g_4_7 : L4_7.all (k_g 4) = true := by decide +kernel
set_option maxRecDepth 100000 in
theorem k_g_4_8 : L4_8.all (k_g 4) = true := by decide +kernel
set_option maxRecDepth 100000 in
theorem k_g_4_9 : L4_9.all (k_g 4) = true := by decide +kernel
set_option maxRecDepth 100000 in
theorem k_g_4_10 : L4_10.all (k_g 4) = true := by decide +kernel
set_option maxRecDepth 100000 in
theorem k_g_4_11 : L4_11.all (k_g 4) = true := by decide +kernel
set_option maxRecDepth 100000 in
theorem k_g_4_12 : L4_12.all (k_g 4) = true := by decide +kernel
set_option maxRecDepth 100000 in
theorem k_g_4_13 : L4_13.all (k_g 4) = true := by decide +kernel
set_option maxRecDepth 100000 in
theorem k_g_4_14 : L4_14.all (k_g 4) = true := by decide +kernel
set_option maxRecDepth 100000 in
theorem k_g_4_15 : L4_15.all (k_g 4) = true := by decide +kernel
set_option maxRecDepth 100000 in
theorem k_g_4_16 : L4_16.all (k_g 4) = true := by decide +kernel
set_option maxRecDepth 100000 in
theorem k_g_4_17 : L4_17.all (k_g 4) = true := by decide +kernel
set_option maxRecDepth 100000 in
theorem k_g_4_18 : L4_18.all (k_g 4) = true := by decide +kernel
set_option maxRecDepth 100000 in
theorem k_g_4_19 : L4_19.all (k_g 4) = true := by decide +kernel
theorem k_g_4 : (LL 4).all (k_g 4) = true := by
  show (L4_0 ++ L4_1 ++ L4_2 ++ L4_3 ++ L4_4 ++ L4_5 ++ L4_6 ++ L4_7 ++ L4_8 ++ L4_9 ++ L4_10 ++ L4_11 ++ L4_12 ++ L4_13 ++ L4_14 ++ L4_15 ++ L4_16 ++ L4_17 ++ L4_18 ++ L4_19).all (k_g 4) = true
  rw [List.all_append, List.all_append, List.all_append, List.all_append, List.all_append, List.all_append, List.all_append, List.all_append, List.all_append, List.all_append, List.all_append, List.all_append, List.all_append, List.all_append, List.all_append, List.all_append, List.all_append, List.all_append, List.all_append]
  simp only [k_g_4_0, k_g_4_1, k_g_4_2, k_g_4_3, k_g_4_4, k_g_4_5, k_g_4_6, k_g_4_7, k_g_4_8, k_g_4_9, k_g_4_10, k_g_4_11, k_g_4_12, k_g_4_13, k_g_4_14, k_g_4_15, k_g_4_16, k_g_4_17, k_g_4_18, k_g_4_19]
  rfl
theorem k_g_t {n c : Nat} (hn : n ≤ 4) (hc : c ∈ LL n) : k_g n c = true := by
  match n, hn with
  | 0, _ => exact List.all_eq_true.mp k_g_0 c hc
  | 1, _ => exact List.all_eq_true.mp k_g_1 c hc
  | 2, _ => exact List.all_eq_true.mp k_g_2 c hc
  | 3, _ => exact List.all_eq_true.mp k_g_3 c hc
  | 4, _ => exact List.all_eq_true.mp k_g_4 c hc
theorem Vd.hc {n t c : Nat} (h : Vd n t c) (hn : n ≤ 4) {s : Nat} (hs3 : s < 3) : hs c s n = cnt c s n := nbt (allN_at (band (band (k_g_t hn h.1)).1).1 hs3)
theorem Vd.v1 {n t c : Nat} (h : Vd n t c) (hn : n ≤ 4) {k : Nat} (hk : k < n) (hp : pl c k < 12) : pl c k % 4 < cnt c (pl c k / 4) n := by
  have q := allN_at (band (band (k_g_t hn h.1)).1).2 hk
  rw [Bool.or_eq_true, nel, decide_eq_true_iff] at q
  exact q.elim (fun w => by omega) (fun w => nlt_ w)
theorem Vd.v2 {n t c : Nat} (h : Vd n t c) (hn : n ≤ 4) {j k : Nat} (hj : j < n) (hk : k < n) (hjk : j ≠ k) (hp : pl c k < 12) : pl c j ≠ pl c k := by
  have q := allN_at (allN_at (band (k_g_t hn h.1)).2 hk) hj
  rw [Bool.or_eq_true, Bool.or_eq_true, nbd, nbd, nel, decide_eq_true_iff, decide_eq_true_iff] at q
  rcases q with (q | q) | q
  · exact absurd q hjk
  · omega
  · intro w
    rw [decide_eq_true w] at q
    cases q
theorem pn_ct_cg {p q : Nat → Bool} : ∀ n, (∀ i, i < n → p i = q i) → pn_ct p n = pn_ct q n
  | 0, _ => rfl
  | n + 1, h => by
    have ih := pn_ct_cg n (fun i hi => h i (by omega))
    cases hb : p n with
    | true => rw [pn_ct_t hb, pn_ct_t ((h n (by omega)).symm.trans hb), ih]
    | false => rw [pn_ct_f hb, pn_ct_f ((h n (by omega)).symm.trans hb), ih]
theorem pn_ct_no {p : Nat → Bool} : ∀ n, (∀ i, i < n → p i = false) → pn_ct p n = 0
  | 0, _ => rfl
  | n + 1, h => by rw [pn_ct_f (h n (by omega)), pn_ct_no n (fun i hi => h i (by omega))]
theorem pn_ct_im {p q : Nat → Bool} : ∀ n, (∀ i, i < n → p i = true → q i = true) → pn_ct p n ≤ pn_ct q n
  | 0, _ => Nat.le_refl 0
  | n + 1, h => by
    have ih := pn_ct_im n (fun i hi => h i (by omega))
    cases hb : p n with
    | true => rw [pn_ct_t hb, pn_ct_t (h n (by omega) hb)]; omega
    | false =>
      rw [pn_ct_f hb]
      exact Nat.le_trans ih (pn_ct_mono q (by omega))
theorem pn_ct_ex {p : Nat → Bool} {n : Nat} : ∀ n', n ≤ n' → (∀ i, n ≤ i → i < n' → p i = false) → pn_ct p n' = pn_ct p n
  | 0, h, _ => by rw [Nat.le_zero.mp h]
  | n' + 1, h, hp => by
    rcases Nat.lt_or_ge n (n' + 1) with q | q
    · rw [pn_ct_f (hp n' (by omega) (by omega))]
      exact pn_ct_ex n' (by omega) (fun i a b => hp i a (by omega))
    · rw [show n = n' + 1 by omega]
/-- boxes counted one by one, and along a row of different ones that has them all -/
theorem ct_fn {N : Nat} (f : Nat → Nat) : ∀ n (p : Nat → Bool), (∀ a b, a < n → b < n → f a = f b → a = b) → (∀ k, k < n → f k < N) → (∀ j, j < N → p j = true → ∃ k, k < n ∧ f k = j) → pn_ct p N = pn_ct (fun k => p (f k)) n
  | 0, p, _, _, hc => pn_ct_no N (fun i hi => by
      cases hb : p i with
      | false => rfl
      | true =>
        obtain ⟨k, hk, -⟩ := hc i hi hb
        omega)
  | n + 1, p, hi, hN, hc => by
    have hi' : ∀ a b, a < n → b < n → f a = f b → a = b := fun a b ha hb => hi a b (by omega) (by omega)
    have hN' : ∀ k, k < n → f k < N := fun k hk => hN k (by omega)
    cases hb : p (f n) with
    | false =>
      rw [pn_ct_f (p := fun k => p (f k)) hb]
      exact ct_fn f n p hi' hN' (fun j hj hp => by
        obtain ⟨k, hk, e⟩ := hc j hj hp
        rcases Nat.lt_or_ge k n with q | q
        · exact ⟨k, q, e⟩
        · rw [show k = n by omega] at e
          rw [← e, hb] at hp
          cases hp)
    | true =>
      rw [pn_ct_t (p := fun k => p (f k)) hb]
      have ih := ct_fn f n (fun j => p j && !decide (j = f n)) hi' hN' (fun j hj hp => by
        have hp2 := band hp
        obtain ⟨k, hk, e⟩ := hc j hj hp2.1
        rcases Nat.lt_or_ge k n with q | q
        · exact ⟨k, q, e⟩
        · rw [show k = n by omega] at e
          rw [e] at hp2
          simp at hp2)
      rw [pn_ct_up (p := fun j => p j && !decide (j = f n)) (s := f n) (by simp) hb (fun i hi2 => by simp [hi2]), if_pos (hN n (by omega)), ih]
      congr 1
      exact pn_ct_cg n (fun k hk => by
        have : ¬ f k = f n := fun w => by
          have := hi k n (by omega) (by omega) w
          omega
        simp [this])
theorem cnt_ct (c s : Nat) : ∀ n, cnt c s n = pn_ct (fun k => decide (pl c k / 4 = s)) n
  | 0 => rfl
  | n + 1 => by
    show cnt c s n + (bif Nat.beq s (pl c n / 4) then 1 else 0) = _
    rw [cnt_ct c s n, nbd]
    by_cases h : pl c n / 4 = s
    · rw [pn_ct_t (decide_eq_true h), decide_eq_true h.symm]
      rfl
    · rw [pn_ct_f (decide_eq_false h), decide_eq_false (fun w => h w.symm)]
      rfl
/-- the boxes of a bay in a stack; stacks without gaps; the code of a bay -/
def cbv (N : Nat) (β : Nat → Int32) (P : Nat → Nat) (x : Int32) (s : Nat) : Nat := pn_ct (fun j => decide (β j = x ∧ P j / 4 = s)) N
def Geo (N t : Nat) (β : Nat → Int32) (P : Nat → Nat) (x : Int32) : Prop := (∀ s, s < 3 → cbv N β P x s ≤ t) ∧ (∀ j, j < N → β j = x → P j < 12 → P j % 4 < cbv N β P x (P j / 4)) ∧ ∀ j j', j < N → j' < N → j ≠ j' → β j = x → β j' = x → P j < 12 → P j' ≠ P j
def Bc (N : Nat) (β : Nat → Int32) (P : Nat → Nat) (x : Int32) (js : List Nat) (c : Nat) : Prop := js.length ≤ 4 ∧ c < 2 ^ (4 * js.length) ∧ (∀ q r j : Nat, js[q]? = some j → js[r]? = some j → q = r) ∧ (∀ k j : Nat, js[k]? = some j → j < N ∧ β j = x ∧ pl c k = P j) ∧ ∀ j, j < N → β j = x → P j ≠ 12 → ∃ k : Nat, js[k]? = some j
section GE
variable {N t : Nat} {β : Nat → Int32} {P : Nat → Nat} {x : Int32} {js : List Nat} {c : Nat}
theorem Bc.cn (h : Bc N β P x js c) {s : Nat} (hs3 : s < 3) : cbv N β P x s = cnt c s js.length := by
  obtain ⟨h4, hc, hi, hm, hcov⟩ := h
  unfold cbv
  rw [cnt_ct, ct_fn (jn js) js.length (fun j => decide (β j = x ∧ P j / 4 = s)) (fun a b ha hb e => hi a b _ (jn_some ha) (by rw [e]; exact jn_some hb)) (fun k hk => (hm k _ (jn_some hk)).1) (fun j hj hp => by
    have hp := of_decide_eq_true hp
    obtain ⟨k, hk⟩ := hcov j hj hp.1 (by omega)
    exact ⟨k, (List.getElem?_eq_some_iff.mp hk).1, jn_at hk⟩)]
  refine pn_ct_cg _ (fun k hk => ?_)
  obtain ⟨-, a, b⟩ := hm k _ (jn_some hk)
  rw [b]
  simp [a]
theorem Bc.vd (h : Bc N β P x js c) (hg : Geo N t β P x) (h14 : ∀ j, j < N → β j = x → P j < 14) : Vd js.length t c := by
  have h' := h
  obtain ⟨h4, hc, hi, hm, hcov⟩ := h'
  have ok : c ∈ LL js.length := okc h4 hc (fun k hk => by
    obtain ⟨a, b, e⟩ := hm k _ (jn_some hk)
    rw [e]
    exact h14 _ a b) (fun k hk hp => by
    obtain ⟨a, b, e⟩ := hm k _ (jn_some hk)
    rw [← h.cn (by omega), e]
    rw [e] at hp
    exact hg.2.1 _ a b hp) (fun j k hjk hk hp => by
    obtain ⟨a, b, e⟩ := hm k _ (jn_some hk)
    obtain ⟨a2, b2, e2⟩ := hm j _ (jn_some (show j < js.length by omega))
    rw [e, e2]
    rw [e] at hp
    exact hg.2.2 _ _ a a2 (fun w => by
      have := hi j k _ (jn_some (by omega)) (by rw [← w]; exact jn_some hk)
      omega) b b2 hp)
  refine ⟨ok, fun s hs3 => ?_⟩
  rw [Vd.hc (t := 4) ⟨ok, fun s _ => hs_le c s _⟩ h4 hs3, ← h.cn hs3]
  exact hg.1 s hs3
theorem Bc.geo (h : Bc N β P x js c) (hv : Vd js.length t c) : Geo N t β P x := by
  have h' := h
  obtain ⟨h4, hc, hi, hm, hcov⟩ := h'
  refine ⟨fun s hs3 => ?_, fun j hj hb hp => ?_, fun j j' hj hj' hjj hb hb' hp => ?_⟩
  · rw [h.cn hs3, ← hv.hc h4 hs3]
    exact hv.2 s hs3
  · obtain ⟨k, hk⟩ := hcov j hj hb (by omega)
    obtain ⟨-, -, e⟩ := hm k j hk
    rw [h.cn (by omega), ← e]
    exact hv.v1 h4 (List.getElem?_eq_some_iff.mp hk).1 (by omega)
  · obtain ⟨k, hk⟩ := hcov j hj hb (by omega)
    obtain ⟨-, -, e⟩ := hm k j hk
    rcases Nat.lt_or_ge (P j') 12 with q | q
    · obtain ⟨k', hk'⟩ := hcov j' hj' hb' (by omega)
      obtain ⟨-, -, e'⟩ := hm k' j' hk'
      rw [← e, ← e']
      refine hv.v2 h4 (List.getElem?_eq_some_iff.mp hk').1 (List.getElem?_eq_some_iff.mp hk).1 (fun w => ?_) (by omega)
      rw [w, hk] at hk'
      exact hjj (Option.some.inj hk')
    · omega
/-- where the boxes of the bay are the same -/
def Same (N N' : Nat) (β β' : Nat → Int32) (P P' : Nat → Nat) (x : Int32) : Prop := N ≤ N' ∧ (∀ j, j < N' → β' j = x → j < N ∧ β j = x ∧ P' j = P j) ∧ ∀ j, j < N → β j = x → β' j = x ∧ P' j = P j
variable {N' : Nat} {β' : Nat → Int32} {P' : Nat → Nat}
theorem Bc.fr (h : Bc N β P x js c) (hs : Same N N' β β' P P' x) : Bc N' β' P' x js c := by
  obtain ⟨h4, hc, hi, hm, hcov⟩ := h
  refine ⟨h4, hc, hi, fun k j hk => ?_, fun j hj hb hp => ?_⟩
  · obtain ⟨a, b, e⟩ := hm k j hk
    obtain ⟨b2, e2⟩ := hs.2.2 j a b
    have := hs.1
    exact ⟨by omega, b2, by rw [e2]; exact e⟩
  · obtain ⟨a, b, e⟩ := hs.2.1 j hj hb
    exact hcov j a b (by rw [← e]; exact hp)
theorem cbv_fr (hs : Same N N' β β' P P' x) (s : Nat) : cbv N' β' P' x s = cbv N β P x s := by
  unfold cbv
  rw [pn_ct_ex (n := N) N' hs.1 (fun i hi hi' => decide_eq_false (fun w => by
    have := (hs.2.1 i hi' w.1).1
    omega))]
  have hle := hs.1
  refine pn_ct_cg N (fun i hi => decide_eq_decide.mpr ⟨fun w => ?_, fun w => ?_⟩)
  · obtain ⟨a, b, e⟩ := hs.2.1 i (by omega) w.1
    exact ⟨b, by rw [← e]; exact w.2⟩
  · obtain ⟨b2, e2⟩ := hs.2.2 i hi w.1
    exact ⟨b2, by rw [e2]; exact w.2⟩
theorem Geo.fr (h : Geo N t β P x) (hs : Same N N' β β' P P' x) : Geo N' t β' P' x := by
  obtain ⟨h1, h2, h3⟩ := h
  refine ⟨fun s hs3 => by rw [cbv_fr hs]; exact h1 s hs3, fun j hj hb hp => ?_, fun j j' hj hj' hjj hb hb' hp => ?_⟩
  · obtain ⟨a, b, e⟩ := hs.2.1 j hj hb
    rw [cbv_fr hs, e]
    rw [e] at hp
    exact h2 j a b hp
  · obtain ⟨a, b, e⟩ := hs.2.1 j hj hb
    obtain ⟨a', b', e'⟩ := hs.2.1 j' hj' hb'
    rw [e, e']
    rw [e] at hp
    exact h3 j j' a a' hjj b b' hp
end GE
/-- moves that can be worked one after the other -/
def Pt (Y0 Y2 : Nat → Int32) (js : List Nat) (t : Nat) : Nat → Nat → Nat → Prop
  | 0, _, _ => True
  | r + 1, i, c => ∃ y ∈ suc js.length t (fun _ => true) c, Y0 i = nI (jn js (y.2 / 64)) ∧ Y2 i = nI (y.2 % 8) ∧ Pt Y0 Y2 js t r (i + 1) y.1
def Pk (N t : Nat) (β : Nat → Int32) (P : Nat → Nat) (x : Int32) (y1 y2 : Int32) (Y0 Y2 : Nat → Int32) : Prop := ∃ (js : List Nat) (c m w : Nat), Bc N β P x js c ∧ Vd js.length t c ∧ y1 = nI m ∧ y2 = nI w ∧ w ≤ m ∧ m ≤ 12 ∧ Pt Y0 Y2 js t (m - w) w c
theorem tp_pl {c f : Nat} : ∀ n k, tp c f n = k + 1 → pl c k / 4 = f ∧ k < n
  | 0, k, h => by cases h
  | n + 1, k, h => by
    by_cases q : pl c n / 4 = f ∧ hs c f n ≤ pl c n % 4
    · rw [tp_t q.1 q.2] at h
      obtain rfl : n = k := by omega
      exact ⟨q.1, by omega⟩
    · rw [tp_f q] at h
      have := tp_pl n k h
      exact ⟨this.1, by omega⟩
theorem atj_pl {c l : Nat} : ∀ n k, atj c l n = k + 1 → pl c k = 13 ∧ k < n
  | 0, k, h => by cases h
  | n + 1, k, h => by
    by_cases h0 : atj c l n = 0
    · by_cases q : pl c n = 13 ∧ asc c n = l
      · rw [atj_t h0 q.1 q.2] at h
        obtain rfl : n = k := by omega
        exact ⟨q.1, by omega⟩
      · rw [atj_f h0 q] at h
        cases h
    · rw [atj_k h0] at h
      have := atj_pl n k h
      exact ⟨this.1, by omega⟩
/-- a move, all of it -/
theorem suc_all {n t c : Nat} {ml : Nat → Bool} (hn : n ≤ 4) {y : Nat × Nat} (hy : y ∈ suc n t ml c) : y.1 = wp c (y.2 / 64) (spl n c (y.2 % 8)) ∧ y.2 / 64 < n ∧ pl c (y.2 / 64) ≠ 12 ∧ y.2 % 8 < 5 ∧ (y.2 % 8 < 3 → hs c (y.2 % 8) n < t) := by
  have hk := (suc_k hn y hy).1
  have hr := suc_room y hy
  obtain ⟨h1, h2, h3, h4, h5⟩ := suc_stk hn hy
  refine ⟨?_, hk, ?_, h3, fun w => hr.elim (fun q => q.2) (fun q => by omega)⟩
  · rw [← sml_suc hn (asc_le c n)] at hy
    have key : ∀ p, p ≤ 35 → y ∈ sml n t c ml p → ∃ f to, f < 7 ∧ to < 5 ∧ y ∈ smv n t c f to ml := fun p => by
      induction p with
      | zero => intro _ h; cases h
      | succ p ih =>
        intro hp h
        rcases List.mem_append.mp (show y ∈ sml n t c ml p ++ smv n t c (p / 5) (p % 5) ml from h) with q | q
        · exact ih (by omega) q
        · exact ⟨p / 5, p % 5, by omega, by omega, q⟩
    obtain ⟨f, to, hf, hto, h⟩ := key 35 (Nat.le_refl _) hy
    cases hs : stk n c f with
    | zero =>
      rw [smv_0 hs] at h
      cases h
    | succ k =>
      have hkl := stk_le (c := c) hn f
      unfold smv at h
      rw [hs, Nat.add_sub_cancel] at h
      cases hb : (Nat.beq (k + 1) 0 || sno n t c k f to ml) with
      | true =>
        rw [hb] at h
        cases h
      | false =>
        rw [hb] at h
        have e := List.mem_singleton.mp h
        have e2 : y.2 = 64 * k + 8 * f + to := by rw [e]
        have e1 : y.1 = wp c k (spl n c to) := by rw [e]
        rw [e1, show y.2 / 64 = k by omega, show y.2 % 8 = to by omega]
  · intro w
    unfold stk at h1
    rw [nld] at h1
    by_cases q : y.2 / 8 % 8 < 3
    · rw [decide_eq_true q] at h1
      have := (tp_pl n _ h1).1
      omega
    · rw [decide_eq_false q] at h1
      have := (atj_pl n _ h1).1
      omega
