/-! The search: all moves of a state. -/
def Fw (σ σ' : ck_S) : Prop := ∃ J : cs_J, σ' = cs_jk σ J ∧ (∀ q, q < 2 → J.1 q = cs_sa σ q) ∧ ∀ q, q < 3 → J.2.2 q = cs_si σ q
theorem Fr.w {σ σ' : ck_S} (h : Fr σ σ') : Fw σ σ' := by
  obtain ⟨J, a, b, c⟩ := h
  exact ⟨J, a, fun q hq => b q (by omega), c⟩
theorem Fw.rf (σ : ck_S) : Fw σ σ := (Fr.rf σ).w
theorem Fw.tr {σ σ1 σ2 : ck_S} (h : Fw σ σ1) (h2 : Fw σ1 σ2) : Fw σ σ2 := by
  obtain ⟨J, rfl, a, b⟩ := h
  obtain ⟨J2, rfl, a2, b2⟩ := h2
  exact ⟨J2, rfl, fun q hq => (a2 q hq).trans (a q hq), fun q hq => (b2 q hq).trans (b q hq)⟩
theorem Fw.sa {σ σ' : ck_S} (h : Fw σ σ') {q : Nat} (hq : q < 2) : cs_sa σ' q = cs_sa σ q := by
  obtain ⟨J, rfl, a, b⟩ := h
  exact a q hq
theorem Fw.si {σ σ' : ck_S} (h : Fw σ σ') {q : Nat} (hq : q < 3) : cs_si σ' q = cs_si σ q := by
  obtain ⟨J, rfl, a, b⟩ := h
  exact b q hq
theorem Fw.lv {σ σ' : ck_S} (h : Fw σ σ') : cs_lv σ' = cs_lv σ := by
  funext k
  unfold cs_lv
  rw [h.si (by omega : 1 < 3)]
theorem Fw.nd {σ σ' : ck_S} (h : Fw σ σ') : cs_ndk σ' = cs_ndk σ := by
  funext k j
  unfold cs_ndk
  rw [h.sa (by omega : 1 < 2), h.sa (by omega : 0 < 2)]
theorem Fw.ti {σ σ' : ck_S} (h : Fw σ σ') : cs_ti σ' = cs_ti σ := by
  obtain ⟨J, rfl, a, b⟩ := h
  rfl
theorem Fw.mg {σ σ' : ck_S} (h : Fw σ σ') : mgc σ' = mgc σ := by
  funext n c k
  unfold mgc
  rw [h.lv, h.nd]
theorem Fw.suc {σ σ' : ck_S} (h : Fw σ σ') : sucl σ' = sucl σ := by
  funext n c
  unfold sucl
  rw [h.mg, h.ti]
theorem Sq.ms {σ : ck_S} {S : qS} (h : Sq σ S) {f : Nat → Nat → Int32} (hf : ∀ q, q ≠ 2 → q ≠ 3 → f q = cs_sa σ q) : Sq (cs_jk σ (f, cs_sn σ, cs_si σ)) S := by
  obtain ⟨h1, h2, h3, h4, h5, h6⟩ := h
  refine ⟨h1, h2, h3, h4, fun i x hx => ?_, h6⟩
  show f 4 i = _ ∧ f 5 i = _ ∧ f 6 i = _ ∧ _
  rw [hf 4 (by omega) (by omega), hf 5 (by omega) (by omega), hf 6 (by omega) (by omega)]
  exact h5 i x hx
/-- the class at another state of its search, the queue as S -/
def Cw (ad : Nat → Nat) (σ : ck_S) (K : rp_K) (C : px_P) (S : qS) : Prop := ∃ σ' K', Rp ad K' C ∧ Cl ad σ' K' ∧ (∀ i, 100 ≤ i → K' i = K i) ∧ Fw σ σ' ∧ Sq σ' S
theorem asl_t {n t c k : Nat} (h : pl c k = 13) : asl n t c (k + 1) = asl n t c k ++ tsl n t c k (3 + asc c k) 3 := if_pos h
theorem asl_f {n t c k : Nat} (h : ¬ pl c k = 13) : asl n t c (k + 1) = asl n t c k := if_neg h
theorem asc_t {c k : Nat} (h : pl c k = 13) : asc c (k + 1) = asc c k + 1 := if_pos h
theorem asc_f {c k : Nat} (h : ¬ pl c k = 13) : asc c (k + 1) = asc c k := if_neg h
theorem ttl1_0 {n t : Nat} {mg : Nat → Bool} {c f : Nat} (h : tp c f n = 0) : ttl1 n t mg c f = [] := if_pos h
theorem ttl_s (n t : Nat) (mg : Nat → Bool) (c f : Nat) : ttl n t mg c (f + 1) = ttl n t mg c f ++ ttl1 n t mg c f := rfl
section RP
variable {B : Nat} {sc : Option (Nat × Nat × (Nat → Int32))} {d : Nat} {ad : Nat → Nat} {σ : ck_S} {K : rp_K} {C : px_P}
theorem cc_tryMoves (hR : Rp ad K C) (hc : Cl ad σ K) {S : qS} (hS : Sq σ S) {n a c : Nat} {pq : Nat × Nat} (hsz : cs_si σ 0 = nI n) (hn4 : n ≤ 4) (ha : S.1[a]? = some (c, pq)) : px_W ps_Y ps_P B sc (d + 5) 42 [.ref (ad 3), .int (nI a)] C 0 0 (fun v C' => v = none ∧ Cw ad σ K C' (rchl (fun c => en (cs_lv σ) c n) (a + 1) S (sucl σ n c))) px_no := by
  obtain ⟨hst, -, -, hc4⟩ := hS.2.2.2.2.1 a _ ha
  have hal : a < 1240 := Nat.lt_of_lt_of_le (List.getElem?_eq_some_iff.mp ha).1 hS.2.1
  refine ⟨pm_Sea_tryMoves, rfl, Nat.le_of_ble_eq_true rfl, fun X hw hX => ?_⟩
  iterate 2 refine px_go hX ?_
  refine ⟨_, _, (hR.1 3 _ hc.1.2.2.2), rfl, ?_⟩
  iterate 2 refine px_go hX ?_
  refine ⟨_, _, (hR.1 8 _ hc.2.1.2.2.2.2.1), (vp_in_nI hal (by omega)), ?_⟩
  rw [nI_clamp (by omega), hst]
  iterate 4 refine px_go hX ?_
  refine ⟨_, (hR.1 3 _ hc.1.2.2.2), 0, 0, _, Nat.le_of_ble_eq_true rfl, Nat.le_of_ble_eq_true rfl, Nat.le_of_ble_eq_true rfl, cc_measureStacks hR hc hc4 hsz hn4, ?_⟩
  rintro _ C ⟨rfl, g, hg, hfr, K1, hR1, hc1, hK1⟩
  have hS1 := hS.ms hfr
  have hF1 : Fw σ (cs_jk σ (g, cs_sn σ, cs_si σ)) := ⟨_, rfl, fun q hq => hfr q (by omega) (by omega), fun _ _ => rfl⟩
  obtain ⟨σ1, hσ1⟩ : ∃ s, s = cs_jk σ (g, cs_sn σ, cs_si σ) := ⟨_, rfl⟩
  have hh1 : ∀ s, s < 3 → cs_sa σ1 2 s = nI (hs c s n) := fun s h => by rw [hσ1]; exact (hg s h).1
  have ht1 : ∀ s, s < 3 → cs_sa σ1 3 s = nI (tp c s n) - 1 := fun s h => by rw [hσ1]; exact (hg s h).2
  rw [← hσ1] at hc1 hS1 hF1
  iterate 2 refine px_go hX ?_
  have loop2 : ∀ kk i (σ2 : ck_S) (K2 : rp_K) (C2 : px_P), i + kk = n → (Rp ad K2 C2 ∧ Cl ad σ2 K2 ∧ (∀ q, 100 ≤ q → K2 q = K q) ∧ Fr σ1 σ2 ∧ Sq σ2 (rchl (fun c => en (cs_lv σ) c n) (a + 1) S (ttl n (cs_ti σ) (mgc σ n c) c 3 ++ asl n (cs_ti σ) c i))) → X (47, [(0, .ref (ad 3)), (1, .int (nI a)), (2, .int (nI c)), (3, .int (nI (3 + asc c i))), (4, .int (nI i))], [], C2, 0, 0) := by
    intro kk
    induction kk with
    | zero =>
      intro i σ2 K2 C2 hi ⟨hR2, hc2, hK2, hF2, hS2⟩
      have hlt : i = n := hi
      have hFw := hF1.tr hF2.w
      have hsz2 : cs_si σ2 0 = nI n := by rw [hFw.si (by omega)]; exact hsz
      have hh2 : ∀ s, s < 3 → cs_sa σ2 2 s = nI (hs c s n) := fun s h => by rw [hF2.sa (by omega)]; exact hh1 s h
      have ht2 : ∀ s, s < 3 → cs_sa σ2 3 s = nI (tp c s n) - 1 := fun s h => by rw [hF2.sa (by omega)]; exact ht1 s h
      have h3 : C2 (ad 3) = some (px_o 3 [.int (nI (cs_ti σ2)), .ref (ad 4), .ref (ad 5), .ref (ad 6), .ref (ad 7), .ref (ad 8), .ref (ad 9), .ref (ad 10), .ref (ad 11), .int (nI n), .int (cs_si σ2 1), .int (cs_si σ2 2), .int (cs_si σ2 3), .int (cs_si σ2 4)]) := by rw [← hsz2]; exact hR2.1 3 _ hc2.1.2.2.2
      iterate 3 refine px_go hX ?_
      refine ⟨_, _, h3, rfl, ?_⟩
      refine px_go hX ?_
      refine ⟨fun (c1 : nI n ≤ nI i) => ?_, fun (c1 : ¬ nI n ≤ nI i) => absurd (nI_le (by omega) (by omega)) c1⟩
      refine px_go hX ?_
      rw [hlt] at hS2
      exact ⟨rfl, σ2, K2, hR2, hc2, hK2, hFw, hS2⟩
    | succ kk ih =>
      intro i σ2 K2 C2 hi ⟨hR2, hc2, hK2, hF2, hS2⟩
      have hlt : i < n := by omega
      have hFw := hF1.tr hF2.w
      have hsz2 : cs_si σ2 0 = nI n := by rw [hFw.si (by omega)]; exact hsz
      have hh2 : ∀ s, s < 3 → cs_sa σ2 2 s = nI (hs c s n) := fun s h => by rw [hF2.sa (by omega)]; exact hh1 s h
      have ht2 : ∀ s, s < 3 → cs_sa σ2 3 s = nI (tp c s n) - 1 := fun s h => by rw [hF2.sa (by omega)]; exact ht1 s h
      have h3 : C2 (ad 3) = some (px_o 3 [.int (nI (cs_ti σ2)), .ref (ad 4), .ref (ad 5), .ref (ad 6), .ref (ad 7), .ref (ad 8), .ref (ad 9), .ref (ad 10), .ref (ad 11), .int (nI n), .int (cs_si σ2 1), .int (cs_si σ2 2), .int (cs_si σ2 3), .int (cs_si σ2 4)]) := by rw [← hsz2]; exact hR2.1 3 _ hc2.1.2.2.2
      iterate 3 refine px_go hX ?_
      refine ⟨_, _, h3, rfl, ?_⟩
      refine px_go hX ?_
      refine ⟨fun (c2 : nI n ≤ nI i) => absurd c2 (nI_ge hlt (by omega)), fun (c2 : ¬ nI n ≤ nI i) => ?_⟩
      iterate 3 refine px_go hX ?_
      refine ⟨Nat.le_of_ble_eq_true rfl, 0, 0, _, Nat.le_of_ble_eq_true rfl, Nat.le_of_ble_eq_true rfl, Nat.le_of_ble_eq_true rfl, cc_placeOf hc4 (by omega), ?_⟩
      rintro _ C ⟨rfl, rfl⟩
      have h16 := pl_lt c i
      iterate 2 refine px_go hX ?_
      refine ⟨fun (c3 : ¬ nI (pl c i) = (13 : Int32)) => ?_, fun (c3 : nI (pl c i) = (13 : Int32)) => ?_⟩
      · iterate 2 refine px_go hX ?_
        exact px_lw hw [(0, .ref (ad 3)), (1, .int (nI a)), (2, .int (nI c)), (3, .int (nI (3 + asc c (i + 1)))), (4, .int (nI (i + 1)))] (ih (i + 1) σ2 K2 _ (by omega) ⟨hR2, hc2, hK2, hF2, by rw [asl_f (fun w => c3 (congrArg nI w))]; exact hS2⟩) ⟨rfl, rfl, rfl, (congrArg (fun z => some (Value.int z)) (by rw [asc_f (fun w => c3 (congrArg nI w))])), (congrArg (fun z => some (Value.int z)) (nI_succ _).symm), trivial⟩
      · have hpl : pl c i = 13 := (nI_eq (by omega) (by omega : 13 < 2 ^ 31)).mp c3
        iterate 6 refine px_go hX ?_
        refine ⟨_, h3, 0, 0, _, Nat.le_of_ble_eq_true rfl, Nat.le_of_ble_eq_true rfl, Nat.le_of_ble_eq_true rfl, cc_tryStacks hR2 hc2 hS2 hc4 hsz2 hn4 hh2 (by omega) (by have := asc_le c i; omega) a, ?_⟩
        rintro _ C ⟨rfl, σ3, K3, hR3, hc3, hK3, hF3, hS3⟩
        rw [hFw.lv, hFw.ti, ← rchl_app, List.append_assoc, ← asl_t hpl] at hS3
        iterate 3 refine px_go hX ?_
        exact px_lw hw [(0, .ref (ad 3)), (1, .int (nI a)), (2, .int (nI c)), (3, .int (nI (3 + asc c (i + 1)))), (4, .int (nI (i + 1)))] (ih (i + 1) σ3 K3 _ (by omega) ⟨hR3, hc3, fun q hq => (hK3 q hq).trans (hK2 q hq), hF2.tr hF3, hS3⟩) ⟨rfl, rfl, rfl, (congrArg (fun z => some (Value.int z)) (by rw [asc_t hpl]; exact (nI_succ _).symm)), (congrArg (fun z => some (Value.int z)) (nI_succ _).symm), trivial⟩
  have loop1 : ∀ kk i (σ2 : ck_S) (K2 : rp_K) (C2 : px_P), i + kk = 3 → (Rp ad K2 C2 ∧ Cl ad σ2 K2 ∧ (∀ q, 100 ≤ q → K2 q = K q) ∧ Fr σ1 σ2 ∧ Sq σ2 (rchl (fun c => en (cs_lv σ) c n) (a + 1) S (ttl n (cs_ti σ) (mgc σ n c) c i))) → X (14, [(0, .ref (ad 3)), (1, .int (nI a)), (2, .int (nI c)), (3, .int (nI i))], [], C2, 0, 0) := by
    intro kk
    induction kk with
    | zero =>
      intro i σ2 K2 C2 hi ⟨hR2, hc2, hK2, hF2, hS2⟩
      have hlt : i = 3 := hi
      have hFw := hF1.tr hF2.w
      have hsz2 : cs_si σ2 0 = nI n := by rw [hFw.si (by omega)]; exact hsz
      have hh2 : ∀ s, s < 3 → cs_sa σ2 2 s = nI (hs c s n) := fun s h => by rw [hF2.sa (by omega)]; exact hh1 s h
      have ht2 : ∀ s, s < 3 → cs_sa σ2 3 s = nI (tp c s n) - 1 := fun s h => by rw [hF2.sa (by omega)]; exact ht1 s h
      have h3 : C2 (ad 3) = some (px_o 3 [.int (nI (cs_ti σ2)), .ref (ad 4), .ref (ad 5), .ref (ad 6), .ref (ad 7), .ref (ad 8), .ref (ad 9), .ref (ad 10), .ref (ad 11), .int (nI n), .int (cs_si σ2 1), .int (cs_si σ2 2), .int (cs_si σ2 3), .int (cs_si σ2 4)]) := by rw [← hsz2]; exact hR2.1 3 _ hc2.1.2.2.2
      iterate 3 refine px_go hX ?_
      refine ⟨fun (c4 : (3 : Int32) ≤ nI i) => ?_, fun (c4 : ¬ (3 : Int32) ≤ nI i) => absurd (by rw [hlt]; exact Int32.le_refl _) c4⟩
      iterate 4 refine px_go hX ?_
      exact px_lw hw [(0, .ref (ad 3)), (1, .int (nI a)), (2, .int (nI c)), (3, .int (nI (3 + asc c 0))), (4, .int (nI 0))] (loop2 (n - 0) 0 σ2 K2 _ (by omega) ⟨hR2, hc2, hK2, hF2, by rw [show asl n (cs_ti σ) c 0 = [] from rfl, List.append_nil]; rw [hlt] at hS2; exact hS2⟩) ⟨rfl, rfl, rfl, rfl, rfl, trivial⟩
    | succ kk ih =>
      intro i σ2 K2 C2 hi ⟨hR2, hc2, hK2, hF2, hS2⟩
      have hlt : i < 3 := by omega
      have hFw := hF1.tr hF2.w
      have hsz2 : cs_si σ2 0 = nI n := by rw [hFw.si (by omega)]; exact hsz
      have hh2 : ∀ s, s < 3 → cs_sa σ2 2 s = nI (hs c s n) := fun s h => by rw [hF2.sa (by omega)]; exact hh1 s h
      have ht2 : ∀ s, s < 3 → cs_sa σ2 3 s = nI (tp c s n) - 1 := fun s h => by rw [hF2.sa (by omega)]; exact ht1 s h
      have h3 : C2 (ad 3) = some (px_o 3 [.int (nI (cs_ti σ2)), .ref (ad 4), .ref (ad 5), .ref (ad 6), .ref (ad 7), .ref (ad 8), .ref (ad 9), .ref (ad 10), .ref (ad 11), .int (nI n), .int (cs_si σ2 1), .int (cs_si σ2 2), .int (cs_si σ2 3), .int (cs_si σ2 4)]) := by rw [← hsz2]; exact hR2.1 3 _ hc2.1.2.2.2
      iterate 3 refine px_go hX ?_
      refine ⟨fun (c5 : (3 : Int32) ≤ nI i) => absurd c5 (nI_ge hlt (by omega : 3 < 2 ^ 31)), fun (c5 : ¬ (3 : Int32) ≤ nI i) => ?_⟩
      iterate 2 refine px_go hX ?_
      refine ⟨_, _, h3, rfl, ?_⟩
      iterate 2 refine px_go hX ?_
      refine ⟨_, _, (hR2.1 7 _ hc2.2.1.2.2.2.1), (vp_in_nI hlt (by omega)), ?_⟩
      rw [nI_clamp (by omega), ht2 i hlt]
      iterate 2 refine px_go hX ?_
      refine ⟨fun (c6 : nI (tp c i n) - 1 = (-1 : Int32)) => ?_, fun (c6 : ¬ nI (tp c i n) - 1 = (-1 : Int32)) => ?_⟩
      · iterate 2 refine px_go hX ?_
        exact px_lw hw [(0, .ref (ad 3)), (1, .int (nI a)), (2, .int (nI c)), (3, .int (nI (i + 1)))] (ih (i + 1) σ2 K2 _ (by omega) ⟨hR2, hc2, hK2, hF2, by rw [ttl_s, ttl1_0 ((nI_m1 (by have := tp_le c i n; omega)).mp c6), List.append_nil]; exact hS2⟩) ⟨rfl, rfl, rfl, (congrArg (fun z => some (Value.int z)) (nI_succ _).symm), trivial⟩
      · iterate 5 refine px_go hX ?_
        refine ⟨_, h3, 0, 0, _, Nat.le_of_ble_eq_true rfl, Nat.le_of_ble_eq_true rfl, Nat.le_of_ble_eq_true rfl, cc_tryTop hR2 hc2 hS2 hc4 hsz2 hn4 hh2 ht2 hlt (fun w => c6 (by rw [w]; decide +kernel)) a, ?_⟩
        rintro _ C ⟨rfl, σ3, K3, hR3, hc3, hK3, hF3, hS3⟩
        rw [hFw.lv, hFw.mg, hFw.ti, ← rchl_app, ← ttl_s] at hS3
        iterate 2 refine px_go hX ?_
        exact px_lw hw [(0, .ref (ad 3)), (1, .int (nI a)), (2, .int (nI c)), (3, .int (nI (i + 1)))] (ih (i + 1) σ3 K3 _ (by omega) ⟨hR3, hc3, fun q hq => (hK3 q hq).trans (hK2 q hq), hF2.tr hF3, hS3⟩) ⟨rfl, rfl, rfl, (congrArg (fun z => some (Value.int z)) (nI_succ _).symm), trivial⟩
  exact px_lw hw [(0, .ref (ad 3)), (1, .int (nI a)), (2, .int (nI c)), (3, .int (nI 0))] (loop1 (3 - 0) 0 σ1 K1 _ (by omega) ⟨hR1, hc1, hK1, Fr.rf σ1, hS1⟩) ⟨rfl, rfl, rfl, rfl, trivial⟩
end RP
