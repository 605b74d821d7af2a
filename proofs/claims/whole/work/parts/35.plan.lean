/-! The class's plan. -/
theorem rch_Qp {ep : Nat → Bool} {S : qS} {x : qE} (h : Qp S.1) (hp : x.2.1 ≤ S.1.length) (h1 : 0 < S.1.length → 1 ≤ x.2.1) (hs : x.2.2 < 256) : Qp (rch ep S x).1 ∧ S.1.length ≤ (rch ep S x).1.length := by
  unfold rch
  split
  · exact ⟨h, Nat.le_refl _⟩
  · refine ⟨fun i y hy => ?_, by show _ ≤ (S.1 ++ [x]).length; rw [List.length_append]; exact Nat.le_add_right _ _⟩
    have hy : (S.1 ++ [x])[i]? = some y := hy
    rcases Nat.lt_or_ge i S.1.length with hi | hi
    · rw [List.getElem?_append_left hi] at hy
      exact h i y hy
    · rw [List.getElem?_append_right hi] at hy
      have hxy : y = x := by
        have := List.mem_of_getElem? hy
        simpa using this
      have hil : i = S.1.length := by
        have := (List.getElem?_eq_some_iff.mp hy).1
        simp at this
        omega
      rw [hxy, hil]
      exact ⟨hp, h1, hs⟩
theorem rchl_Qp {ep : Nat → Bool} {p : Nat} (h1 : 1 ≤ p) : ∀ (l : List (Nat × Nat)) (S : qS), Qp S.1 → p ≤ S.1.length → (∀ y ∈ l, y.2 < 256) → Qp (rchl ep p S l).1 ∧ S.1.length ≤ (rchl ep p S l).1.length
  | [], S, h, hp, hl => ⟨h, Nat.le_refl _⟩
  | y :: l, S, h, hp, hl => by
    have q := rch_Qp (ep := ep) (x := (y.1, p, y.2)) h hp (fun _ => h1) (hl y List.mem_cons_self)
    have r := rchl_Qp (ep := ep) h1 l (rch ep S (y.1, p, y.2)) q.1 (Nat.le_trans hp q.2) (fun z hz => hl z (List.mem_cons_of_mem _ hz))
    exact ⟨r.1, Nat.le_trans q.2 r.2⟩
theorem bfs_Qp {ep : Nat → Bool} {suc : Nat → List (Nat × Nat)} (hs : ∀ c, ∀ y ∈ suc c, y.2 < 256) : ∀ (m a : Nat) (S : qS), Qp S.1 → Qp (bfs ep suc m a S).1
  | 0, _, S, h => h
  | m + 1, a, S, h => by
    by_cases h0 : S.2 = 0
    · cases hx : S.1[a]? with
      | none =>
        rw [bfs_n (List.getElem?_eq_none_iff.mp hx)]
        exact h
      | some x =>
        rw [bfs_s h0 hx]
        have := (List.getElem?_eq_some_iff.mp hx).1
        exact bfs_Qp hs m (a + 1) _ (rchl_Qp (by omega) _ S h (by omega) (hs x.1)).1
    · rw [bfs_e h0]
      exact h
theorem tsl_b {n t c k f : Nat} (hk : k < 4) (hf : f < 7) : ∀ i, i ≤ 3 → ∀ y ∈ tsl n t c k f i, y.2 < 256
  | 0, _, y, hy => by cases hy
  | i + 1, hi, y, hy => by
    by_cases h : ¬ i = f ∧ hs c i n < t
    · rw [tsl_t h] at hy
      rcases List.mem_append.mp hy with hy | hy
      · exact tsl_b hk hf i (by omega) y hy
      · rw [List.mem_singleton.mp hy]
        show 64 * k + 8 * f + i < 256
        omega
    · rw [tsl_f h] at hy
      exact tsl_b hk hf i (by omega) y hy
theorem ttl1_b {n t : Nat} {mg : Nat → Bool} {c f : Nat} (hn : n ≤ 4) (hf : f < 3) : ∀ y ∈ ttl1 n t mg c f, y.2 < 256 := by
  intro y hy
  unfold ttl1 at hy
  have := tp_le c f n
  split at hy
  · cases hy
  · rcases List.mem_append.mp hy with hy | hy
    · rcases List.mem_append.mp hy with hy | hy
      · exact tsl_b (by omega) (by omega) 3 (Nat.le_refl 3) y hy
      · split at hy
        · rw [List.mem_singleton.mp hy]
          show 64 * (tp c f n - 1) + 8 * f + 3 < 256
          omega
        · cases hy
    · rw [List.mem_singleton.mp hy]
      show 64 * (tp c f n - 1) + 8 * f + 4 < 256
      omega
theorem asl_b {n t c : Nat} : ∀ k, k ≤ 4 → ∀ y ∈ asl n t c k, y.2 < 256
  | 0, _, y, hy => by cases hy
  | k + 1, hk, y, hy => by
    by_cases h : pl c k = 13
    · rw [asl_t h] at hy
      rcases List.mem_append.mp hy with hy | hy
      · exact asl_b k (by omega) y hy
      · have := asc_le c k
        exact tsl_b (by omega) (by omega) 3 (Nat.le_refl 3) y hy
    · rw [asl_f h] at hy
      exact asl_b k (by omega) y hy
theorem sucl_b {σ : ck_S} {n : Nat} (hn : n ≤ 4) (c : Nat) : ∀ y ∈ sucl σ n c, y.2 < 256 := by
  intro y hy
  unfold sucl at hy
  rcases List.mem_append.mp hy with hy | hy
  · rcases List.mem_append.mp (show y ∈ (ttl n (cs_ti σ) (mgc σ n c) c 2) ++ ttl1 n (cs_ti σ) (mgc σ n c) c 2 from hy) with hy | hy
    · rcases List.mem_append.mp (show y ∈ (ttl n (cs_ti σ) (mgc σ n c) c 1) ++ ttl1 n (cs_ti σ) (mgc σ n c) c 1 from hy) with hy | hy
      · rcases List.mem_append.mp (show y ∈ (ttl n (cs_ti σ) (mgc σ n c) c 0) ++ ttl1 n (cs_ti σ) (mgc σ n c) c 0 from hy) with hy | hy
        · cases hy
        · exact ttl1_b hn (by omega) y hy
      · exact ttl1_b hn (by omega) y hy
    · exact ttl1_b hn (by omega) y hy
  · exact asl_b n hn y hy
theorem cs_F_Qp (σ : ck_S) {n : Nat} (hn : n ≤ 4) (c0 : Nat) : Qp (cs_F σ n c0).1 := bfs_Qp (sucl_b hn) _ _ _ (rch_Qp (S := ([], 0)) (x := (c0, 0, 0)) (fun i x hx => by simp at hx) (Nat.le_refl 0) (fun h => absurd h (Nat.lt_irrefl 0)) (show 0 < 256 by omega)).1
theorem plc_ok {σ : ck_S} (hrg : cs_rg σ) {j : Nat} (hj : j < cs_n σ) (h3 : ¬ cs_bf σ j 2 = 3) {pv : Int32} (hpv : (cs_bf σ j 2 = 4 ∧ pv = 13) ∨ (¬ cs_bf σ j 2 = 4 ∧ pv = cs_bf σ j 2 * 4 + cs_bf σ j 3)) : pv = nI (plc σ j) ∧ plc σ j < 16 := by
  unfold plc
  rcases hpv with ⟨h, hpv⟩ | ⟨h, hpv⟩
  · rw [if_pos h, hpv]
    exact ⟨rfl, by omega⟩
  · rw [if_neg h, hpv]
    rcases hrg j hj with q | q | ⟨s, t, hs, ht, q1, q2⟩
    · exact absurd q h3
    · exact absurd q h
    · rw [q1, q2, nI_clamp (by omega), nI_clamp (by omega)]
      refine ⟨?_, by omega⟩
      rw [show (nI s * (4 : Int32)) = nI (s * 4) from pk_mul s 4, nI_add]
section RU
variable {B : Nat} {sc : Option (Nat × Nat × (Nat → Int32))} {d : Nat} {ad : Nat → Nat} {σ : ck_S} {K : rp_K} {C : px_P}
/-- what a plan of bay b answers, and the state behind it -/
def PlanP (ad : Nat → Nat) (σ : ck_S) (K : rp_K) (b : Nat) (v : Option Value) (C' : px_P) : Prop := ∃ (σ1 : ck_S) (c0 : Nat) (J : cs_J), Ad σ σ1 (bjs σ (nI b) (cs_n σ)) c0 ∧ (∀ r, r < 1024 → J.2.1 r = 0) ∧
  (((cs_F σ1 (bjs σ (nI b) (cs_n σ)).length c0).2 = 0 ∧ v = some (.int (-1)) ∧ Ck ad (cs_jk (cs_fp σ b) J) K C') ∨
   ∃ e L Y, (cs_F σ1 (bjs σ (nI b) (cs_n σ)).length c0).2 = e + 1 ∧ Told σ1 (cs_F σ1 (bjs σ (nI b) (cs_n σ)).length c0) e b L Y ∧ v = some (.int (nI L)) ∧ Ck ad (cs_jk (cs_yA (cs_sP σ b (nI L)) Y) J) K C')
theorem cs_fp_0 (σ : ck_S) (b : Nat) : cs_yf (cs_fp σ b) b 0 = 0 := by
  show va_up (cs_yf σ) b _ b 0 = _
  rw [va_up_self]
  rfl
theorem cc_plan (hR : Rp ad K C) (hc : Cl ad σ K) (hz : ∀ r, r < 1024 → cs_sn σ r = 0) (hrg : cs_rg σ) (hb4 : ∀ x, pn_ct (fun j => decide (cs_bf σ j 1 = x ∧ ¬ cs_bf σ j 2 = 3)) (cs_n σ) ≤ 4) (x : Int32) : px_W ps_Y ps_P B sc (d + 7) 48 [.ref (ad 0), .int x] C 1 6 (fun v C' => ∃ b, b < cs_nb σ ∧ x = nI b ∧ PlanP ad σ K b v C') (fun kd C' => kd = 1 ∧ C' = C ∧ (x < 0 ∨ nI (cs_nb σ) ≤ x)) := by
  have h0 := hR.1 0 _ hc.1.1
  have hn := hc.2.2.2.2.2.2.2.2.2
  have hnb := hc.2.2.2.2.2.2.1
  refine ⟨pm_Mo_plan, rfl, Nat.le_of_ble_eq_true rfl, fun X hw hX => ?_⟩
  iterate 3 refine px_go hX ?_
  refine ⟨_, h0, 0, 0, _, Nat.le_of_ble_eq_true rfl, Nat.le_of_ble_eq_true rfl, Nat.le_of_ble_eq_true rfl, cc_bayAt hR hc _, ?_⟩
  rintro _ C ⟨rfl, ⟨b, hb, hx, rfl⟩ | ⟨hx, rfl⟩⟩
  · iterate 5 refine px_go hX ?_
    refine ⟨_, _, h0, rfl, ?_⟩
    refine px_go hX ?_
    refine ⟨_, (hR.1 3 _ hc.1.2.2.2), 0, 0, _, Nat.le_of_ble_eq_true rfl, Nat.le_of_ble_eq_true rfl, Nat.le_of_ble_eq_true rfl, cc_clear hR hc, ?_⟩
    rintro _ C ⟨rfl, K0, hR0, hc0, hK0⟩
    iterate 2 refine px_go hX ?_
    have loop : ∀ kk i (σ1 : ck_S) (c0 : Nat) (K1 : rp_K) (C1 : px_P), i + kk = cs_n σ → (Rp ad K1 C1 ∧ Cl ad σ1 K1 ∧ (∀ q, 100 ≤ q → K1 q = K q) ∧ Ad σ σ1 (bjs σ x i) c0) → X (29, [(0, .ref (ad 0)), (1, .int (x)), (2, .ref (ad (20 + 4 * b))), (3, .int (nI i))], [], C1, 0, 0) := by
      intro kk
      induction kk with
      | zero =>
        intro i σ1 c0 K1 C1 hi ⟨hR1, hc1, hK1, hA⟩
        have hlt : i = cs_n σ := hi
        have hA' := hA
        obtain ⟨⟨J, rfl, hJ⟩, a0, a4, a2, a5, a6, a7⟩ := hA'
        iterate 3 refine px_go hX ?_
        refine ⟨_, _, (hR1.1 0 _ hc1.1.1), rfl, ?_⟩
        refine px_go hX ?_
        refine ⟨fun (c1 : nI (cs_n σ) ≤ nI i) => ?_, fun (c1 : ¬ nI (cs_n σ) ≤ nI i) => absurd (nI_le (by omega) (by omega)) c1⟩
        rw [hlt] at hA a0 a4 a5
        iterate 2 refine px_go hX ?_
        refine ⟨_, _, (hR1.1 0 _ hc1.1.1), rfl, ?_⟩
        iterate 2 refine px_go hX ?_
        refine ⟨_, (hR1.1 3 _ hc1.1.2.2.2), 0, 0, _, Nat.le_of_ble_eq_true rfl, Nat.le_of_ble_eq_true rfl, Nat.le_of_ble_eq_true rfl, cc_findPlan (σ := cs_jk σ J) (n := (bjs σ x (cs_n σ)).length) hR1 hc1 a0 a4 a2 (Nat.lt_of_lt_of_le a5 (show 2 ^ (4 * (bjs σ x (cs_n σ)).length) ≤ 2 ^ 16 from Nat.pow_le_pow_right (by decide) (by omega))) (fun r hr => by rw [show cs_sn (cs_jk σ J) = cs_sn σ from hJ]; exact hz r hr) hb (cs_F_Qp _ a4 _), ?_⟩
        rintro _ C ⟨rfl, J2, hJ2, ⟨hF0, K3, hR3, hc3, hK3⟩ | ⟨e, L, Y, he, hT, K3, hR3, hc3, hK3⟩⟩
        · iterate 2 refine px_go hX ?_
          refine ⟨_, _, (hR3.1 _ _ (hc3.2.2.1 b hb).1), rfl, ?_⟩
          refine px_go hX ?_
          refine ⟨fun (c2 : cs_yf (cs_fp σ b) b 0 = 0) => ?_, fun (c2 : ¬ cs_yf (cs_fp σ b) b 0 = 0) => absurd (cs_fp_0 σ b) c2⟩
          iterate 2 refine px_go hX ?_
          subst hx
          exact ⟨b, hb, rfl, _, c0, J2, hA, hJ2, Or.inl ⟨hF0, rfl, K3, hR3, hc3, fun q hq => (hK3 q hq).trans (hK1 q hq)⟩⟩
        · iterate 2 refine px_go hX ?_
          refine ⟨_, _, (hR3.1 _ _ (hc3.2.2.1 b hb).1), rfl, ?_⟩
          refine px_go hX ?_
          refine ⟨fun (c3 : cs_yf (cs_sP σ b (nI L)) b 0 = 0) => absurd ((cs_sP_0 σ b (nI L)).symm.trans c3) (by decide), fun (c3 : ¬ cs_yf (cs_sP σ b (nI L)) b 0 = 0) => ?_⟩
          iterate 2 refine px_go hX ?_
          refine ⟨_, _, (hR3.1 _ _ (hc3.2.2.1 b hb).1), rfl, ?_⟩
          iterate 2 refine px_go hX ?_
          subst hx
          exact ⟨b, hb, rfl, _, c0, J2, hA, hJ2, Or.inr ⟨e, L, Y, he, hT, congrArg (fun z => some (Value.int z)) (cs_sP_1 σ b (nI L)), K3, hR3, hc3, fun q hq => (hK3 q hq).trans (hK1 q hq)⟩⟩
      | succ kk ih =>
        intro i σ1 c0 K1 C1 hi ⟨hR1, hc1, hK1, hA⟩
        have hlt : i < cs_n σ := by omega
        have hA' := hA
        obtain ⟨⟨J, rfl, hJ⟩, a0, a4, a2, a5, a6, a7⟩ := hA'
        iterate 3 refine px_go hX ?_
        refine ⟨_, _, (hR1.1 0 _ hc1.1.1), rfl, ?_⟩
        refine px_go hX ?_
        refine ⟨fun (c4 : nI (cs_n σ) ≤ nI i) => absurd c4 (nI_ge hlt (by omega)), fun (c4 : ¬ nI (cs_n σ) ≤ nI i) => ?_⟩
        iterate 3 refine px_go hX ?_
        refine ⟨_, (hR1.1 0 _ hc1.1.1), 0, 0, _, Nat.le_of_ble_eq_true rfl, Nat.le_of_ble_eq_true rfl, Nat.le_of_ble_eq_true rfl, cc_boxAtI (σ := cs_jk σ J) hR1 hc1 hlt, ?_⟩
        rintro _ C ⟨rfl, rfl⟩
        iterate 6 refine px_go hX ?_
        refine ⟨_, (hR1.1 _ _ (hc1.2.2.2.1 i hlt)), 0, 0, _, Nat.le_of_ble_eq_true rfl, Nat.le_of_ble_eq_true rfl, Nat.le_of_ble_eq_true rfl, cc_isIn (σ := cs_jk σ J) hR1 hc1 hlt _, ?_⟩
        rintro _ C ⟨rfl, ⟨b5, rfl⟩ | ⟨b5, rfl⟩⟩
        · refine px_go hX ?_
          refine ⟨fun (c6 : 1 = 0) => absurd c6 (by decide), fun (c6 : ¬ 1 = 0) => ?_⟩
          have h4 : (bjs σ x i).length < 4 := by
            have h5 := hb4 x
            have h6 := pn_ct_mono (fun j => decide (cs_bf σ j 1 = x ∧ ¬ cs_bf σ j 2 = 3)) (show i + 1 ≤ cs_n σ from hlt)
            rw [pn_ct_t (decide_eq_true b5), ← bjs_len] at h6
            omega
          iterate 2 refine px_go hX ?_
          refine ⟨_, _, (hR1.1 0 _ hc1.1.1), rfl, ?_⟩
          iterate 3 refine px_go hX ?_
          refine ⟨_, (hR1.1 3 _ hc1.1.2.2.2), 0, 0, _, Nat.le_of_ble_eq_true rfl, Nat.le_of_ble_eq_true rfl, Nat.le_of_ble_eq_true rfl, cc_add (σ := cs_jk σ J) hR1 hc1 hlt a0 h4, ?_⟩
          rintro _ C ⟨rfl, pv, lb, hpv, hlb, K2, hR2, hc2, hK2⟩
          obtain ⟨hp1, hp2⟩ := plc_ok hrg hlt b5.2 hpv
          have hA2 := hA.add h4 hp1 hp2 hlb
          rw [← show bjs σ x (i + 1) = bjs σ x i ++ [i] from if_pos b5] at hA2
          iterate 2 refine px_go hX ?_
          exact px_lw hw [(0, .ref (ad 0)), (1, .int (x)), (2, .ref (ad (20 + 4 * b))), (3, .int (nI (i + 1)))] (ih (i + 1) _ _ K2 _ (by omega) ⟨hR2, hc2, fun q hq => (hK2 q hq).trans (hK1 q hq), hA2⟩) ⟨rfl, rfl, rfl, (congrArg (fun z => some (Value.int z)) (nI_succ _).symm), trivial⟩
        · refine px_go hX ?_
          refine ⟨fun (c7 : 0 = 0) => ?_, fun (c7 : ¬ 0 = 0) => absurd rfl c7⟩
          iterate 2 refine px_go hX ?_
          exact px_lw hw [(0, .ref (ad 0)), (1, .int (x)), (2, .ref (ad (20 + 4 * b))), (3, .int (nI (i + 1)))] (ih (i + 1) _ c0 K1 _ (by omega) ⟨hR1, hc1, hK1, by rw [show bjs σ x (i + 1) = bjs σ x i from if_neg b5]; exact hA⟩) ⟨rfl, rfl, rfl, (congrArg (fun z => some (Value.int z)) (nI_succ _).symm), trivial⟩
    exact px_lw hw [(0, .ref (ad 0)), (1, .int (x)), (2, .ref (ad (20 + 4 * b))), (3, .int (nI 0))] (loop (cs_n σ - 0) 0 (cs_clr σ) 0 K0 _ (by omega) ⟨hR0, hc0, hK0, ⟨_, rfl, rfl⟩, rfl, Nat.zero_le 4, rfl, (show 0 < 2 ^ 0 by decide), ⟨0, rfl, (show 0 < 2 ^ 0 by decide)⟩, fun k j hk => by simp [bjs] at hk⟩) ⟨rfl, rfl, rfl, rfl, trivial⟩
  · iterate 4 refine px_go hX ?_
    exact ⟨Nat.le_refl 1, Nat.le_refl 6, rfl, rfl, rfl, hx⟩
end RU
