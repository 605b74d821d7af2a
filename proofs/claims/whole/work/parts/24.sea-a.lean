/-! The search's small methods. -/
def en (lv : Nat → Bool) (c : Nat) : Nat → Bool
  | 0 => true
  | k + 1 => en lv c k && (!(pl c k == 13) && (!lv k || pl c k == 12))
def mgj (nd : Nat → Nat → Bool) (c k : Nat) : Nat → Bool
  | 0 => true
  | j + 1 => mgj nd c k j && (!nd k j || pl c j == 12)
def hs (c s : Nat) : Nat → Nat
  | 0 => 0
  | k + 1 => if pl c k / 4 = s ∧ hs c s k ≤ pl c k % 4 then pl c k % 4 + 1 else hs c s k
def tp (c s : Nat) : Nat → Nat
  | 0 => 0
  | k + 1 => if pl c k / 4 = s ∧ hs c s k ≤ pl c k % 4 then k + 1 else tp c s k
theorem hs_le (c s : Nat) : ∀ n, hs c s n ≤ 4
  | 0 => by unfold hs; omega
  | n + 1 => by
    unfold hs
    split
    · omega
    · exact hs_le c s n
def cs_lv (σ : ck_S) (k : Nat) : Bool := !decide ((cs_si σ 1 >>> (nI k &&& 31)) &&& 1 = 0)
def cs_ndk (σ : ck_S) (k j : Nat) : Bool := !decide ((cs_sa σ 1 k >>> (cs_sa σ 0 j &&& 31)) &&& 1 = 0)
/-- the state with other cells of the search -/
abbrev cs_J : Type := (Nat → Nat → Int32) × (Nat → Int64) × (Nat → Int32)
def cs_jk (σ : ck_S) (J : cs_J) : ck_S := (σ.1, σ.2.1, σ.2.2.1, σ.2.2.2.1, σ.2.2.2.2.1, J)
section RK
variable {B : Nat} {sc : Option (Nat × Nat × (Nat → Int32))} {d : Nat} {ad : Nat → Nat} {σ : ck_S} {K : rp_K} {C : px_P}
theorem cc_placeOf {c k : Nat} (hc4 : c < 65536) (hk : k < 4) : px_W ps_Y ps_P B sc (d + 1) 35 [.int (nI c), .int (nI k)] C 0 0 (fun v C' => C' = C ∧ v = some (.int (nI (pl c k)))) px_no := by
  refine ⟨pm_Sea_placeOf, rfl, Nat.le_of_ble_eq_true rfl, fun X hw hX => ?_⟩
  iterate 8 refine px_go hX ?_
  exact ⟨rfl, congrArg (fun z => some (Value.int z)) (ie_pl hc4 hk)⟩
theorem cc_withPlace {c k p : Nat} (hc4 : c < 65536) (hk : k < 4) (hp : p < 16) : px_W ps_Y ps_P B sc (d + 1) 37 [.int (nI c), .int (nI k), .int (nI p)] C 0 0 (fun v C' => C' = C ∧ v = some (.int (nI (wp c k p)))) px_no := by
  refine ⟨pm_Sea_withPlace, rfl, Nat.le_of_ble_eq_true rfl, fun X hw hX => ?_⟩
  iterate 16 refine px_go hX ?_
  exact ⟨rfl, congrArg (fun z => some (Value.int z)) (ie_wp hc4 hk hp)⟩
theorem cc_stepOf {k f t : Nat} (hk : k < 4) (hf : f < 7) (ht : t < 5) : px_W ps_Y ps_P B sc (d + 1) 38 [.int (nI k), .int (nI f), .int (nI t)] C 0 0 (fun v C' => C' = C ∧ v = some (.int (nI (64 * k + 8 * f + t)))) px_no := by
  refine ⟨pm_Sea_stepOf, rfl, Nat.le_of_ble_eq_true rfl, fun X hw hX => ?_⟩
  iterate 10 refine px_go hX ?_
  exact ⟨rfl, congrArg (fun z => some (Value.int z)) (ie_st k hk f hf t ht)⟩
theorem en_at {lv : Nat → Bool} {c : Nat} : ∀ {n : Nat}, en lv c n = true → ∀ {i : Nat}, i < n → pl c i ≠ 13 ∧ (lv i = true → pl c i = 12)
  | n + 1, h, i, hi => by
    have h2 : (en lv c n && (!(pl c n == 13) && (!lv n || pl c n == 12))) = true := h
    simp only [Bool.and_eq_true] at h2
    rcases Nat.lt_succ_iff_lt_or_eq.mp hi with h3 | h3
    · exact en_at h2.1 h3
    · subst h3
      refine ⟨fun w => ?_, fun w => ?_⟩
      · have := h2.2.1
        rw [w] at this
        cases this
      · have := h2.2.2
        rw [w] at this
        simpa using this
theorem en_s {lv : Nat → Bool} {c i : Nat} (h : en lv c i = true) (h1 : pl c i ≠ 13) (h2 : lv i = true → pl c i = 12) : en lv c (i + 1) = true := by
  show (en lv c i && (!(pl c i == 13) && (!lv i || pl c i == 12))) = true
  rw [h]
  cases hl : lv i with
  | false => simp [h1]
  | true => simp [h1, h2 hl]
theorem cc_isEnd (hR : Rp ad K C) (hc : Cl ad σ K) {n c : Nat} (hc4 : c < 65536) (hsz : cs_si σ 0 = nI n) (hn4 : n ≤ 4) : px_W ps_Y ps_P B sc (d + 1) 33 [.ref (ad 3), .int (nI c)] C 0 0 (px_bo (en (cs_lv σ) c n = true) C) px_no := by
  refine ⟨pm_Sea_isEnd, rfl, Nat.le_of_ble_eq_true rfl, fun X hw hX => ?_⟩
  have h3 : C (ad 3) = some (px_o 3 [.int (nI (cs_ti σ)), .ref (ad 4), .ref (ad 5), .ref (ad 6), .ref (ad 7), .ref (ad 8), .ref (ad 9), .ref (ad 10), .ref (ad 11), .int (nI n), .int (cs_si σ 1), .int (cs_si σ 2), .int (cs_si σ 3), .int (cs_si σ 4)]) := by rw [← hsz]; exact hR.1 3 _ hc.1.2.2.2
  have loop : ∀ kk i, i + kk = n → en (cs_lv σ) c i = true → X (2, [(0, .ref (ad 3)), (1, .int (nI c)), (2, .int (nI i))], [], C, 0, 0) := by
    intro kk
    induction kk with
    | zero =>
      intro i hi hyp
      have hlt : i = n := hi
      iterate 3 refine px_go hX ?_
      refine ⟨_, _, h3, rfl, ?_⟩
      refine px_go hX ?_
      refine ⟨fun (c1 : nI n ≤ nI i) => ?_, fun (c1 : ¬ nI n ≤ nI i) => absurd (nI_le (by omega) (by omega)) c1⟩
      iterate 2 refine px_go hX ?_
      rw [hlt] at hyp
      exact ⟨Or.inr rfl, rfl, Or.inl ⟨hyp, rfl⟩⟩
    | succ kk ih =>
      intro i hi hyp
      have hlt : i < n := by omega
      iterate 3 refine px_go hX ?_
      refine ⟨_, _, h3, rfl, ?_⟩
      refine px_go hX ?_
      refine ⟨fun (c2 : nI n ≤ nI i) => absurd c2 (nI_ge hlt (by omega)), fun (c2 : ¬ nI n ≤ nI i) => ?_⟩
      iterate 10 refine px_go hX ?_
      refine ⟨_, _, h3, rfl, ?_⟩
      iterate 5 refine px_go hX ?_
      refine ⟨fun (c3 : ((cs_si σ 1) >>> ((nI i) &&& 31)) &&& ((1 : Int32)) = 0) => ?_, fun (c3 : ¬ ((cs_si σ 1) >>> ((nI i) &&& 31)) &&& ((1 : Int32)) = 0) => ?_⟩
      · have hlv : cs_lv σ i = false := by simp [cs_lv, c3]
        iterate 5 refine px_go hX ?_
        refine ⟨fun (c4 : ((nI c) >>> (((nI i) * ((4 : Int32))) &&& 31)) &&& ((15 : Int32)) = (13 : Int32)) => ?_, fun (c4 : ¬ ((nI c) >>> (((nI i) * ((4 : Int32))) &&& 31)) &&& ((15 : Int32)) = (13 : Int32)) => ?_⟩
        · iterate 2 refine px_go hX ?_
          exact ⟨Or.inl rfl, rfl, Or.inr ⟨fun q => absurd ((nI_eq (by have := pl_lt c i; omega) (by omega : 13 < 2 ^ 31)).mp ((ie_pl hc4 (by omega)).symm.trans c4)) (en_at q hlt).1, rfl⟩⟩
        · iterate 2 refine px_go hX ?_
          refine ⟨fun (c5 : (0 : Int32) = 0) => ?_, fun (c5 : ¬ (0 : Int32) = 0) => absurd rfl c5⟩
          iterate 2 refine px_go hX ?_
          exact px_lw hw [(0, .ref (ad 3)), (1, .int (nI c)), (2, .int (nI (i + 1)))] (ih (i + 1) (by omega) (en_s hyp (fun w => c4 ((ie_pl hc4 (by omega)).trans (congrArg nI w))) (fun w => absurd (hlv.symm.trans w) (by decide)))) ⟨rfl, rfl, (congrArg (fun z => some (Value.int z)) (nI_succ _).symm), trivial⟩
      · have hlv : cs_lv σ i = true := by simp [cs_lv, c3]
        iterate 6 refine px_go hX ?_
        refine ⟨fun (c6 : ((nI c) >>> (((nI i) * ((4 : Int32))) &&& 31)) &&& ((15 : Int32)) = (13 : Int32)) => ?_, fun (c6 : ¬ ((nI c) >>> (((nI i) * ((4 : Int32))) &&& 31)) &&& ((15 : Int32)) = (13 : Int32)) => ?_⟩
        · iterate 2 refine px_go hX ?_
          exact ⟨Or.inl rfl, rfl, Or.inr ⟨fun q => absurd ((nI_eq (by have := pl_lt c i; omega) (by omega : 13 < 2 ^ 31)).mp ((ie_pl hc4 (by omega)).symm.trans c6)) (en_at q hlt).1, rfl⟩⟩
        · iterate 2 refine px_go hX ?_
          refine ⟨fun (c7 : (1 : Int32) = 0) => absurd c7 (by decide), fun (c7 : ¬ (1 : Int32) = 0) => ?_⟩
          iterate 3 refine px_go hX ?_
          refine ⟨fun (c8 : ((nI c) >>> (((nI i) * ((4 : Int32))) &&& 31)) &&& ((15 : Int32)) = (12 : Int32)) => ?_, fun (c8 : ¬ ((nI c) >>> (((nI i) * ((4 : Int32))) &&& 31)) &&& ((15 : Int32)) = (12 : Int32)) => ?_⟩
          · iterate 2 refine px_go hX ?_
            exact px_lw hw [(0, .ref (ad 3)), (1, .int (nI c)), (2, .int (nI (i + 1)))] (ih (i + 1) (by omega) (en_s hyp (fun w => c6 ((ie_pl hc4 (by omega)).trans (congrArg nI w))) (fun _ => (nI_eq (by have := pl_lt c i; omega) (by omega : 12 < 2 ^ 31)).mp ((ie_pl hc4 (by omega)).symm.trans c8)))) ⟨rfl, rfl, (congrArg (fun z => some (Value.int z)) (nI_succ _).symm), trivial⟩
          · iterate 2 refine px_go hX ?_
            exact ⟨Or.inl rfl, rfl, Or.inr ⟨fun q => absurd ((ie_pl hc4 (by omega)).trans (congrArg nI ((en_at q hlt).2 hlv))) c8, rfl⟩⟩
  iterate 2 refine px_go hX ?_
  exact px_lw hw [(0, .ref (ad 3)), (1, .int (nI c)), (2, .int (nI 0))] (loop (n - 0) 0 (by omega) rfl) ⟨rfl, rfl, rfl, trivial⟩
theorem mgj_at {nd : Nat → Nat → Bool} {c k : Nat} : ∀ {n : Nat}, mgj nd c k n = true → ∀ {j : Nat}, j < n → nd k j = true → pl c j = 12
  | n + 1, h, j, hj, hd => by
    have h2 : (mgj nd c k n && (!nd k n || pl c n == 12)) = true := h
    simp only [Bool.and_eq_true] at h2
    rcases Nat.lt_succ_iff_lt_or_eq.mp hj with h3 | h3
    · exact mgj_at h2.1 h3 hd
    · subst h3
      have := h2.2
      rw [hd] at this
      simpa using this
theorem mgj_s {nd : Nat → Nat → Bool} {c k j : Nat} (h : mgj nd c k j = true) (h2 : nd k j = true → pl c j = 12) : mgj nd c k (j + 1) = true := by
  show (mgj nd c k j && (!nd k j || pl c j == 12)) = true
  rw [h]
  cases hl : nd k j with
  | false => simp
  | true => simp [h2 hl]
theorem cc_mayGoOut (hR : Rp ad K C) (hc : Cl ad σ K) {n c k : Nat} (hc4 : c < 65536) (hsz : cs_si σ 0 = nI n) (hn4 : n ≤ 4) (hk : k < n) : px_W ps_Y ps_P B sc (d + 2) 40 [.ref (ad 3), .int (nI c), .int (nI k)] C 0 0 (px_bo ((cs_lv σ k && mgj (cs_ndk σ) c k n) = true) C) px_no := by
  refine ⟨pm_Sea_mayGoOut, rfl, Nat.le_of_ble_eq_true rfl, fun X hw hX => ?_⟩
  have h3 : C (ad 3) = some (px_o 3 [.int (nI (cs_ti σ)), .ref (ad 4), .ref (ad 5), .ref (ad 6), .ref (ad 7), .ref (ad 8), .ref (ad 9), .ref (ad 10), .ref (ad 11), .int (nI n), .int (cs_si σ 1), .int (cs_si σ 2), .int (cs_si σ 3), .int (cs_si σ 4)]) := by rw [← hsz]; exact hR.1 3 _ hc.1.2.2.2
  iterate 2 refine px_go hX ?_
  refine ⟨fun (c1 : nI k < 0) => absurd c1 (nI_pos (by omega)), fun (c1 : ¬ nI k < 0) => ?_⟩
  iterate 3 refine px_go hX ?_
  refine ⟨_, _, h3, rfl, ?_⟩
  refine px_go hX ?_
  refine ⟨fun (c2 : nI n ≤ nI k) => absurd c2 (nI_ge hk (by omega)), fun (c2 : ¬ nI n ≤ nI k) => ?_⟩
  iterate 2 refine px_go hX ?_
  refine ⟨_, _, h3, rfl, ?_⟩
  iterate 5 refine px_go hX ?_
  refine ⟨fun (c3 : ¬ ((cs_si σ 1) >>> ((nI k) &&& 31)) &&& ((1 : Int32)) = 0) => ?_, fun (c3 : ((cs_si σ 1) >>> ((nI k) &&& 31)) &&& ((1 : Int32)) = 0) => ?_⟩
  · iterate 2 refine px_go hX ?_
    have hlv : cs_lv σ k = true := by simp [cs_lv, c3]
    have loop : ∀ kk i, i + kk = n → mgj (cs_ndk σ) c k i = true → X (27, [(0, .ref (ad 3)), (1, .int (nI c)), (2, .int (nI k)), (3, .int (nI i))], [], C, 0, 0) := by
      intro kk
      induction kk with
      | zero =>
        intro i hi hyp
        have hlt : i = n := hi
        iterate 3 refine px_go hX ?_
        refine ⟨_, _, h3, rfl, ?_⟩
        refine px_go hX ?_
        refine ⟨fun (c4 : nI n ≤ nI i) => ?_, fun (c4 : ¬ nI n ≤ nI i) => absurd (nI_le (by omega) (by omega)) c4⟩
        iterate 2 refine px_go hX ?_
        rw [hlt] at hyp
        exact ⟨Or.inr rfl, rfl, Or.inl ⟨by rw [hlv, hyp]; rfl, rfl⟩⟩
      | succ kk ih =>
        intro i hi hyp
        have hlt : i < n := by omega
        iterate 3 refine px_go hX ?_
        refine ⟨_, _, h3, rfl, ?_⟩
        refine px_go hX ?_
        refine ⟨fun (c5 : nI n ≤ nI i) => absurd c5 (nI_ge hlt (by omega)), fun (c5 : ¬ nI n ≤ nI i) => ?_⟩
        iterate 2 refine px_go hX ?_
        refine ⟨_, _, h3, rfl, ?_⟩
        iterate 2 refine px_go hX ?_
        refine ⟨_, _, (hR.1 5 _ hc.2.1.2.1), (vp_in_nI (by omega) (by omega)), ?_⟩
        rw [nI_clamp (by omega)]
        iterate 2 refine px_go hX ?_
        refine ⟨_, _, h3, rfl, ?_⟩
        iterate 2 refine px_go hX ?_
        refine ⟨_, _, (hR.1 4 _ hc.2.1.1), (vp_in_nI (by omega) (by omega)), ?_⟩
        rw [nI_clamp (by omega)]
        iterate 4 refine px_go hX ?_
        refine ⟨fun (c6 : ((cs_sa σ 1 k) >>> ((cs_sa σ 0 i) &&& 31)) &&& ((1 : Int32)) = 0) => ?_, fun (c6 : ¬ ((cs_sa σ 1 k) >>> ((cs_sa σ 0 i) &&& 31)) &&& ((1 : Int32)) = 0) => ?_⟩
        · iterate 2 refine px_go hX ?_
          exact px_lw hw [(0, .ref (ad 3)), (1, .int (nI c)), (2, .int (nI k)), (3, .int (nI (i + 1)))] (ih (i + 1) (by omega) (mgj_s hyp (fun w => absurd w (by simp [cs_ndk, c6])))) ⟨rfl, rfl, rfl, (congrArg (fun z => some (Value.int z)) (nI_succ _).symm), trivial⟩
        · iterate 3 refine px_go hX ?_
          refine ⟨Nat.le_of_ble_eq_true rfl, 0, 0, _, Nat.le_of_ble_eq_true rfl, Nat.le_of_ble_eq_true rfl, Nat.le_of_ble_eq_true rfl, cc_placeOf hc4 (by omega), ?_⟩
          rintro _ C ⟨rfl, rfl⟩
          iterate 2 refine px_go hX ?_
          refine ⟨fun (c7 : nI (pl c i) = (12 : Int32)) => ?_, fun (c7 : ¬ nI (pl c i) = (12 : Int32)) => ?_⟩
          · iterate 2 refine px_go hX ?_
            exact px_lw hw [(0, .ref (ad 3)), (1, .int (nI c)), (2, .int (nI k)), (3, .int (nI (i + 1)))] (ih (i + 1) (by omega) (mgj_s hyp (fun _ => (nI_eq (by have := pl_lt c i; omega) (by omega : 12 < 2 ^ 31)).mp c7))) ⟨rfl, rfl, rfl, (congrArg (fun z => some (Value.int z)) (nI_succ _).symm), trivial⟩
          · iterate 2 refine px_go hX ?_
            exact ⟨Or.inl rfl, rfl, Or.inr ⟨fun q => by
              rw [hlv] at q
              exact c7 (congrArg nI (mgj_at q hlt (by simp [cs_ndk, c6]))), rfl⟩⟩
    exact px_lw hw [(0, .ref (ad 3)), (1, .int (nI c)), (2, .int (nI k)), (3, .int (nI 0))] (loop (n - 0) 0 (by omega) rfl) ⟨rfl, rfl, rfl, rfl, trivial⟩
  · iterate 2 refine px_go hX ?_
    exact ⟨Or.inl rfl, rfl, Or.inr ⟨fun q => by simp [cs_lv, c3] at q, rfl⟩⟩
end RK
