/-! The search: the moves that are tried. -/
def tsl (n t c k f : Nat) : Nat → List (Nat × Nat)
  | 0 => []
  | i + 1 => tsl n t c k f i ++ (if ¬ i = f ∧ hs c i n < t then [(wp c k (i * 4 + hs c i n), 64 * k + 8 * f + i)] else [])
theorem tsl_t {n t c k f i : Nat} (h : ¬ i = f ∧ hs c i n < t) : tsl n t c k f (i + 1) = tsl n t c k f i ++ [(wp c k (i * 4 + hs c i n), 64 * k + 8 * f + i)] := by
  show _ ++ (if _ then _ else _) = _
  rw [if_pos h]
theorem tsl_f {n t c k f i : Nat} (h : ¬ (¬ i = f ∧ hs c i n < t)) : tsl n t c k f (i + 1) = tsl n t c k f i := by
  show _ ++ (if _ then _ else _) = _
  rw [if_neg h, List.append_nil]
theorem rchl_1 (ep : Nat → Bool) (p : Nat) (S : qS) (l : List (Nat × Nat)) (x : Nat × Nat) : rchl ep p S (l ++ [x]) = rch ep (rchl ep p S l) (x.1, p, x.2) := by
  rw [rchl_app]
  rfl
/-- the moves of the top of stack f, of the tops of the first stacks, of boxes aside -/
def ttl1 (n t : Nat) (mg : Nat → Bool) (c f : Nat) : List (Nat × Nat) := if tp c f n = 0 then [] else tsl n t c (tp c f n - 1) f 3 ++ (if mg (tp c f n - 1) = true then [(wp c (tp c f n - 1) 12, 64 * (tp c f n - 1) + 8 * f + 3)] else []) ++ [(wp c (tp c f n - 1) 13, 64 * (tp c f n - 1) + 8 * f + 4)]
def ttl (n t : Nat) (mg : Nat → Bool) (c : Nat) : Nat → List (Nat × Nat)
  | 0 => []
  | f + 1 => ttl n t mg c f ++ ttl1 n t mg c f
def asc (c : Nat) : Nat → Nat
  | 0 => 0
  | k + 1 => if pl c k = 13 then asc c k + 1 else asc c k
def asl (n t c : Nat) : Nat → List (Nat × Nat)
  | 0 => []
  | k + 1 => if pl c k = 13 then asl n t c k ++ tsl n t c k (3 + asc c k) 3 else asl n t c k
theorem asc_le (c : Nat) : ∀ k, asc c k ≤ k
  | 0 => Nat.le_refl 0
  | k + 1 => by
    have := asc_le c k
    unfold asc
    split <;> omega
def mgc (σ : ck_S) (n c k : Nat) : Bool := cs_lv σ k && mgj (cs_ndk σ) c k n
def sucl (σ : ck_S) (n c : Nat) : List (Nat × Nat) := ttl n (cs_ti σ) (mgc σ n c) c 3 ++ asl n (cs_ti σ) c n
theorem tp_le (c s : Nat) : ∀ n, tp c s n ≤ n
  | 0 => Nat.le_refl 0
  | n + 1 => by
    have := tp_le c s n
    unfold tp
    split <;> omega
section RO
variable {B : Nat} {sc : Option (Nat × Nat × (Nat → Int32))} {d : Nat} {ad : Nat → Nat} {σ : ck_S} {K : rp_K} {C : px_P}
theorem cc_tryStacks (hR : Rp ad K C) (hc : Cl ad σ K) {S : qS} (hS : Sq σ S) {n c k f : Nat} (hc4 : c < 65536) (hsz : cs_si σ 0 = nI n) (hn4 : n ≤ 4) (hh : ∀ s, s < 3 → cs_sa σ 2 s = nI (hs c s n)) (hk : k < 4) (hf : f < 7) (a : Nat) : px_W ps_Y ps_P B sc (d + 3) 39 [.ref (ad 3), .int (nI a), .int (nI c), .int (nI k), .int (nI f)] C 0 0 (fun v C' => v = none ∧ Cq ad σ K C' (rchl (fun c => en (cs_lv σ) c n) (a + 1) S (tsl n (cs_ti σ) c k f 3))) px_no := by
  have hti := hc.2.2.2.2.2.2.2.2.1
  refine ⟨pm_Sea_tryStacks, rfl, Nat.le_of_ble_eq_true rfl, fun X hw hX => ?_⟩
  have loop : ∀ kk i (σ1 : ck_S) (K1 : rp_K) (C1 : px_P), i + kk = 3 → (Rp ad K1 C1 ∧ Cl ad σ1 K1 ∧ (∀ q, 100 ≤ q → K1 q = K q) ∧ Fr σ σ1 ∧ Sq σ1 (rchl (fun c => en (cs_lv σ) c n) (a + 1) S (tsl n (cs_ti σ) c k f i))) → X (3, [(0, .ref (ad 3)), (1, .int (nI a)), (2, .int (nI c)), (3, .int (nI k)), (4, .int (nI f)), (5, .int (nI i))], [], C1, 0, 0) := by
    intro kk
    induction kk with
    | zero =>
      intro i σ1 K1 C1 hi ⟨hR1, hc1, hK1, hF1, hS1⟩
      have hlt : i = 3 := hi
      have hsz1 : cs_si σ1 0 = nI n := by rw [hF1.si (by omega)]; exact hsz
      have h3 : C1 (ad 3) = some (px_o 3 [.int (nI (cs_ti σ)), .ref (ad 4), .ref (ad 5), .ref (ad 6), .ref (ad 7), .ref (ad 8), .ref (ad 9), .ref (ad 10), .ref (ad 11), .int (nI n), .int (cs_si σ1 1), .int (cs_si σ1 2), .int (cs_si σ1 3), .int (cs_si σ1 4)]) := by rw [← hsz1, ← hF1.ti]; exact hR1.1 3 _ hc1.1.2.2.2
      iterate 3 refine px_go hX ?_
      refine ⟨fun (c1 : (3 : Int32) ≤ nI i) => ?_, fun (c1 : ¬ (3 : Int32) ≤ nI i) => absurd (by rw [hlt]; exact Int32.le_refl _) c1⟩
      refine px_go hX ?_
      rw [hlt] at hS1
      exact ⟨rfl, σ1, K1, hR1, hc1, hK1, hF1, hS1⟩
    | succ kk ih =>
      intro i σ1 K1 C1 hi ⟨hR1, hc1, hK1, hF1, hS1⟩
      have hlt : i < 3 := by omega
      have hsz1 : cs_si σ1 0 = nI n := by rw [hF1.si (by omega)]; exact hsz
      have h3 : C1 (ad 3) = some (px_o 3 [.int (nI (cs_ti σ)), .ref (ad 4), .ref (ad 5), .ref (ad 6), .ref (ad 7), .ref (ad 8), .ref (ad 9), .ref (ad 10), .ref (ad 11), .int (nI n), .int (cs_si σ1 1), .int (cs_si σ1 2), .int (cs_si σ1 3), .int (cs_si σ1 4)]) := by rw [← hsz1, ← hF1.ti]; exact hR1.1 3 _ hc1.1.2.2.2
      iterate 3 refine px_go hX ?_
      refine ⟨fun (c2 : (3 : Int32) ≤ nI i) => absurd c2 (nI_ge hlt (by omega : 3 < 2 ^ 31)), fun (c2 : ¬ (3 : Int32) ≤ nI i) => ?_⟩
      iterate 3 refine px_go hX ?_
      refine ⟨fun (c3 : nI i = nI f) => ?_, fun (c3 : ¬ nI i = nI f) => ?_⟩
      · iterate 2 refine px_go hX ?_
        exact px_lw hw [(0, .ref (ad 3)), (1, .int (nI a)), (2, .int (nI c)), (3, .int (nI k)), (4, .int (nI f)), (5, .int (nI (i + 1)))] (ih (i + 1) σ1 K1 _ (by omega) ⟨hR1, hc1, hK1, hF1, by rw [tsl_f (fun q => q.1 ((nI_eq (by omega) (by omega)).mp c3))]; exact hS1⟩) ⟨rfl, rfl, rfl, rfl, rfl, (congrArg (fun z => some (Value.int z)) (nI_succ _).symm), trivial⟩
      · iterate 2 refine px_go hX ?_
        refine ⟨_, _, h3, rfl, ?_⟩
        iterate 2 refine px_go hX ?_
        refine ⟨_, _, (hR1.1 6 _ hc1.2.1.2.2.1), (vp_in_nI hlt (by omega)), ?_⟩
        rw [nI_clamp (by omega), show cs_sa σ1 2 i = nI (hs c i n) from by rw [hF1.sa (by omega)]; exact hh i hlt]
        iterate 2 refine px_go hX ?_
        refine ⟨_, _, h3, rfl, ?_⟩
        refine px_go hX ?_
        refine ⟨fun (c4 : nI (cs_ti σ) ≤ nI (hs c i n)) => ?_, fun (c4 : ¬ nI (cs_ti σ) ≤ nI (hs c i n)) => ?_⟩
        · iterate 2 refine px_go hX ?_
          exact px_lw hw [(0, .ref (ad 3)), (1, .int (nI a)), (2, .int (nI c)), (3, .int (nI k)), (4, .int (nI f)), (5, .int (nI (i + 1)))] (ih (i + 1) σ1 K1 _ (by omega) ⟨hR1, hc1, hK1, hF1, by rw [tsl_f (fun q => absurd c4 (nI_ge q.2 (by omega)))]; exact hS1⟩) ⟨rfl, rfl, rfl, rfl, rfl, (congrArg (fun z => some (Value.int z)) (nI_succ _).symm), trivial⟩
        · iterate 5 refine px_go hX ?_
          refine ⟨_, _, h3, rfl, ?_⟩
          iterate 2 refine px_go hX ?_
          refine ⟨_, _, (hR1.1 6 _ hc1.2.1.2.2.1), (vp_in_nI hlt (by omega)), ?_⟩
          rw [nI_clamp (by omega), show cs_sa σ1 2 i = nI (hs c i n) from by rw [hF1.sa (by omega)]; exact hh i hlt]
          iterate 2 refine px_go hX ?_
          have hle := hs_le c i n
          have hcond : ¬ i = f ∧ hs c i n < cs_ti σ := ⟨fun w => c3 (congrArg nI w), by
            rcases Nat.lt_or_ge (hs c i n) (cs_ti σ) with h | h
            · exact h
            · exact absurd (nI_le h (by omega)) c4⟩
          refine px_lw hw [(0, .ref (ad 3)), (1, .int (nI a)), (2, .int (nI c)), (3, .int (nI k)), (4, .int (nI f)), (5, .int (nI i)), (6, .int (nI (i * 4 + hs c i n)))] ?_ ⟨rfl, rfl, rfl, rfl, rfl, rfl, congrArg (fun z => some (Value.int z)) (by rw [show (nI i * (4 : Int32)) = nI (i * 4) from pk_mul i 4, nI_add] : nI i * 4 + nI (hs c i n) = nI (i * 4 + hs c i n)), trivial⟩
          iterate 5 refine px_go hX ?_
          refine ⟨Nat.le_of_ble_eq_true rfl, 0, 0, _, Nat.le_of_ble_eq_true rfl, Nat.le_of_ble_eq_true rfl, Nat.le_of_ble_eq_true rfl, cc_withPlace hc4 hk (by omega), ?_⟩
          rintro _ C ⟨rfl, rfl⟩
          iterate 5 refine px_go hX ?_
          refine ⟨Nat.le_of_ble_eq_true rfl, 0, 0, _, Nat.le_of_ble_eq_true rfl, Nat.le_of_ble_eq_true rfl, Nat.le_of_ble_eq_true rfl, cc_stepOf hk hf (by omega), ?_⟩
          rintro _ C ⟨rfl, rfl⟩
          refine px_go hX ?_
          refine ⟨_, h3, 0, 0, _, Nat.le_of_ble_eq_true rfl, Nat.le_of_ble_eq_true rfl, Nat.le_of_ble_eq_true rfl, cc_reachS hR1 hc1 hS1 (wp_lt hc4 hk (by omega)) hsz1 hn4 (a + 1) (64 * k + 8 * f + i) (nI_pred a).symm, ?_⟩
          rintro _ C ⟨rfl, σ2, K2, hR2, hc2, hK2, hF2, hS2⟩
          rw [hF1.lv, ← rchl_1 (fun c => en (cs_lv σ) c n) (a + 1) S _ (wp c k (i * 4 + hs c i n), 64 * k + 8 * f + i), ← tsl_t hcond] at hS2
          iterate 2 refine px_go hX ?_
          exact px_lw hw [(0, .ref (ad 3)), (1, .int (nI a)), (2, .int (nI c)), (3, .int (nI k)), (4, .int (nI f)), (5, .int (nI (i + 1)))] (ih (i + 1) σ2 K2 _ (by omega) ⟨hR2, hc2, fun q hq => (hK2 q hq).trans (hK1 q hq), hF1.tr hF2, hS2⟩) ⟨rfl, rfl, rfl, rfl, rfl, (congrArg (fun z => some (Value.int z)) (nI_succ _).symm), trivial⟩
  iterate 2 refine px_go hX ?_
  exact px_lw hw [(0, .ref (ad 3)), (1, .int (nI a)), (2, .int (nI c)), (3, .int (nI k)), (4, .int (nI f)), (5, .int (nI 0))] (loop (3 - 0) 0 σ K C (by omega) ⟨hR, hc, fun _ _ => rfl, Fr.rf σ, hS⟩) ⟨rfl, rfl, rfl, rfl, rfl, rfl, trivial⟩
theorem cc_tryTop (hR : Rp ad K C) (hc : Cl ad σ K) {S : qS} (hS : Sq σ S) {n c f : Nat} (hc4 : c < 65536) (hsz : cs_si σ 0 = nI n) (hn4 : n ≤ 4) (hh : ∀ s, s < 3 → cs_sa σ 2 s = nI (hs c s n)) (ht : ∀ s, s < 3 → cs_sa σ 3 s = nI (tp c s n) - 1) (hf : f < 3) (h0 : ¬ tp c f n = 0) (a : Nat) : px_W ps_Y ps_P B sc (d + 4) 41 [.ref (ad 3), .int (nI a), .int (nI c), .int (nI f)] C 0 0 (fun v C' => v = none ∧ Cq ad σ K C' (rchl (fun c => en (cs_lv σ) c n) (a + 1) S (ttl1 n (cs_ti σ) (mgc σ n c) c f))) px_no := by
  obtain ⟨k, hk⟩ : ∃ k, tp c f n = k + 1 := ⟨tp c f n - 1, by omega⟩
  have hkn : k < n := by have := tp_le c f n; omega
  have hl : ttl1 n (cs_ti σ) (mgc σ n c) c f = tsl n (cs_ti σ) c k f 3 ++ (if mgc σ n c k = true then [(wp c k 12, 64 * k + 8 * f + 3)] else []) ++ [(wp c k 13, 64 * k + 8 * f + 4)] := by
    unfold ttl1
    rw [if_neg h0, hk]
    rfl
  refine ⟨pm_Sea_tryTop, rfl, Nat.le_of_ble_eq_true rfl, fun X hw hX => ?_⟩
  iterate 2 refine px_go hX ?_
  refine ⟨_, _, (hR.1 3 _ hc.1.2.2.2), rfl, ?_⟩
  iterate 2 refine px_go hX ?_
  refine ⟨_, _, (hR.1 7 _ hc.2.1.2.2.2.1), (vp_in_nI hf (by omega)), ?_⟩
  rw [nI_clamp (by omega), ht f hf, hk, nI_pred]
  iterate 7 refine px_go hX ?_
  refine ⟨_, (hR.1 3 _ hc.1.2.2.2), 0, 0, _, Nat.le_of_ble_eq_true rfl, Nat.le_of_ble_eq_true rfl, Nat.le_of_ble_eq_true rfl, cc_tryStacks hR hc hS hc4 hsz hn4 hh (by omega) (by omega) a, ?_⟩
  rintro _ C ⟨rfl, σ1, K1, hR1, hc1, hK1, hF1, hS1⟩
  have hsz1 : cs_si σ1 0 = nI n := by rw [hF1.si (by omega)]; exact hsz
  iterate 4 refine px_go hX ?_
  refine ⟨_, (hR1.1 3 _ hc1.1.2.2.2), 0, 0, _, Nat.le_of_ble_eq_true rfl, Nat.le_of_ble_eq_true rfl, Nat.le_of_ble_eq_true rfl, cc_mayGoOut hR1 hc1 hc4 hsz1 hn4 hkn, ?_⟩
  rintro _ C ⟨rfl, ⟨b1, rfl⟩ | ⟨b1, rfl⟩⟩
  · refine px_go hX ?_
    refine ⟨fun (c2 : 1 = 0) => absurd c2 (by decide), fun (c2 : ¬ 1 = 0) => ?_⟩
    iterate 5 refine px_go hX ?_
    refine ⟨Nat.le_of_ble_eq_true rfl, 0, 0, _, Nat.le_of_ble_eq_true rfl, Nat.le_of_ble_eq_true rfl, Nat.le_of_ble_eq_true rfl, cc_withPlace (p := 12) hc4 (by omega) (by omega), ?_⟩
    rintro _ C ⟨rfl, rfl⟩
    iterate 5 refine px_go hX ?_
    refine ⟨Nat.le_of_ble_eq_true rfl, 0, 0, _, Nat.le_of_ble_eq_true rfl, Nat.le_of_ble_eq_true rfl, Nat.le_of_ble_eq_true rfl, cc_stepOf (t := 3) (by omega) (by omega) (by omega), ?_⟩
    rintro _ C ⟨rfl, rfl⟩
    refine px_go hX ?_
    refine ⟨_, (hR1.1 3 _ hc1.1.2.2.2), 0, 0, _, Nat.le_of_ble_eq_true rfl, Nat.le_of_ble_eq_true rfl, Nat.le_of_ble_eq_true rfl, cc_reachS hR1 hc1 hS1 (wp_lt hc4 (by omega) (by omega)) hsz1 hn4 (a + 1) (64 * k + 8 * f + 3) (nI_pred a).symm, ?_⟩
    rintro _ C ⟨rfl, σ2, K2, hR2, hc2, hK2, hF2, hS2⟩
    rw [hF1.lv, ← rchl_1 (fun c => en (cs_lv σ) c n) (a + 1) S _ (wp c k 12, 64 * k + 8 * f + 3)] at hS2
    have hsz2 : cs_si σ2 0 = nI n := by rw [hF2.si (by omega)]; exact hsz1
    iterate 5 refine px_go hX ?_
    refine ⟨Nat.le_of_ble_eq_true rfl, 0, 0, _, Nat.le_of_ble_eq_true rfl, Nat.le_of_ble_eq_true rfl, Nat.le_of_ble_eq_true rfl, cc_withPlace (p := 13) hc4 (by omega) (by omega), ?_⟩
    rintro _ C ⟨rfl, rfl⟩
    iterate 5 refine px_go hX ?_
    refine ⟨Nat.le_of_ble_eq_true rfl, 0, 0, _, Nat.le_of_ble_eq_true rfl, Nat.le_of_ble_eq_true rfl, Nat.le_of_ble_eq_true rfl, cc_stepOf (t := 4) (by omega) (by omega) (by omega), ?_⟩
    rintro _ C ⟨rfl, rfl⟩
    refine px_go hX ?_
    refine ⟨_, (hR2.1 3 _ hc2.1.2.2.2), 0, 0, _, Nat.le_of_ble_eq_true rfl, Nat.le_of_ble_eq_true rfl, Nat.le_of_ble_eq_true rfl, cc_reachS hR2 hc2 hS2 (wp_lt hc4 (by omega) (by omega)) hsz2 hn4 (a + 1) (64 * k + 8 * f + 4) (nI_pred a).symm, ?_⟩
    rintro _ C ⟨rfl, σ3, K3, hR3, hc3, hK3, hF3, hS3⟩
    have hmg : mgc σ n c k = true := by unfold mgc; rw [← hF1.lv, ← hF1.nd]; exact b1
    rw [hF2.lv, hF1.lv, ← rchl_1 (fun c => en (cs_lv σ) c n) (a + 1) S _ (wp c k 13, 64 * k + 8 * f + 4)] at hS3
    refine px_go hX ?_
    rw [hl, if_pos hmg]
    exact ⟨rfl, σ3, K3, hR3, hc3, fun q hq => (hK3 q hq).trans ((hK2 q hq).trans (hK1 q hq)), (hF1.tr hF2).tr hF3, hS3⟩
  · refine px_go hX ?_
    refine ⟨fun (c3 : 0 = 0) => ?_, fun (c3 : ¬ 0 = 0) => absurd rfl c3⟩
    iterate 5 refine px_go hX ?_
    refine ⟨Nat.le_of_ble_eq_true rfl, 0, 0, _, Nat.le_of_ble_eq_true rfl, Nat.le_of_ble_eq_true rfl, Nat.le_of_ble_eq_true rfl, cc_withPlace (p := 13) hc4 (by omega) (by omega), ?_⟩
    rintro _ C ⟨rfl, rfl⟩
    iterate 5 refine px_go hX ?_
    refine ⟨Nat.le_of_ble_eq_true rfl, 0, 0, _, Nat.le_of_ble_eq_true rfl, Nat.le_of_ble_eq_true rfl, Nat.le_of_ble_eq_true rfl, cc_stepOf (t := 4) (by omega) (by omega) (by omega), ?_⟩
    rintro _ C ⟨rfl, rfl⟩
    refine px_go hX ?_
    refine ⟨_, (hR1.1 3 _ hc1.1.2.2.2), 0, 0, _, Nat.le_of_ble_eq_true rfl, Nat.le_of_ble_eq_true rfl, Nat.le_of_ble_eq_true rfl, cc_reachS hR1 hc1 hS1 (wp_lt hc4 (by omega) (by omega)) hsz1 hn4 (a + 1) (64 * k + 8 * f + 4) (nI_pred a).symm, ?_⟩
    rintro _ C ⟨rfl, σ3, K3, hR3, hc3, hK3, hF3, hS3⟩
    have hmg : ¬ mgc σ n c k = true := fun w => b1 (by rw [hF1.lv, hF1.nd]; exact w)
    rw [hF1.lv, ← rchl_1 (fun c => en (cs_lv σ) c n) (a + 1) S _ (wp c k 13, 64 * k + 8 * f + 4)] at hS3
    refine px_go hX ?_
    rw [hl, if_neg hmg, List.append_nil]
    exact ⟨rfl, σ3, K3, hR3, hc3, fun q hq => (hK3 q hq).trans (hK1 q hq), hF1.tr hF3, hS3⟩
end RO
