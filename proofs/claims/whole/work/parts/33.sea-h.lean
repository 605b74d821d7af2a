/-! The search: findPlan. -/
def bfs (ep : Nat → Bool) (suc : Nat → List (Nat × Nat)) : Nat → Nat → qS → qS
  | 0, _, S => S
  | m + 1, a, S => if S.2 = 0 then (match S.1[a]? with | some x => bfs ep suc m (a + 1) (rchl ep (a + 1) S (suc x.1)) | none => S) else S
theorem bfs_e {ep : Nat → Bool} {suc : Nat → List (Nat × Nat)} {m a : Nat} {S : qS} (h : ¬ S.2 = 0) : bfs ep suc m a S = S := by
  cases m with
  | zero => rfl
  | succ m => exact if_neg h
theorem bfs_n {ep : Nat → Bool} {suc : Nat → List (Nat × Nat)} {m a : Nat} {S : qS} (h : S.1.length ≤ a) : bfs ep suc m a S = S := by
  cases m with
  | zero => rfl
  | succ m =>
    show (if S.2 = 0 then (match S.1[a]? with | some x => bfs ep suc m (a + 1) (rchl ep (a + 1) S (suc x.1)) | none => S) else S) = S
    rw [List.getElem?_eq_none h]
    split <;> rfl
theorem bfs_s {ep : Nat → Bool} {suc : Nat → List (Nat × Nat)} {m a : Nat} {S : qS} {x : qE} (h : S.2 = 0) (hx : S.1[a]? = some x) : bfs ep suc (m + 1) a S = bfs ep suc m (a + 1) (rchl ep (a + 1) S (suc x.1)) := by
  show (if S.2 = 0 then (match S.1[a]? with | some x => bfs ep suc m (a + 1) (rchl ep (a + 1) S (suc x.1)) | none => S) else S) = _
  rw [if_pos h, hx]
def cs_en (σ : ck_S) (n : Nat) : Nat → Bool := fun c => en (cs_lv σ) c n
/-- the queue at the end of the search -/
def cs_F (σ : ck_S) (n c0 : Nat) : qS := bfs (cs_en σ n) (sucl σ n) 1240 0 (rch (cs_en σ n) ([], 0) (c0, 0, 0))
theorem Fw.en {σ σ' : ck_S} (h : Fw σ σ') : cs_en σ' = cs_en σ := by
  funext n c
  unfold cs_en
  rw [h.lv]
def Told (σ : ck_S) (S : qS) (e b L : Nat) (Y : Nat → Nat → Nat → Int32) : Prop := L ≤ 12 ∧ (∀ j, j < L → 0 < anc S.1 e j) ∧ (anc S.1 e L = 0 ∨ L = 12) ∧ (∀ b', b' ≠ b → Y b' = cs_ya σ b') ∧ ∀ (j : Nat) (x : qE), j < L → S.1[anc S.1 e j]? = some x → Y b 0 (L - 1 - j) = cs_sa σ 0 (x.2.2 / 64 % 4) ∧ Y b 1 (L - 1 - j) = nI (x.2.2 / 8 % 8) ∧ Y b 2 (L - 1 - j) = nI (x.2.2 % 8)
section RT
variable {B : Nat} {sc : Option (Nat × Nat × (Nat → Int32))} {d : Nat} {ad : Nat → Nat} {σ : ck_S} {K : rp_K} {C : px_P}
theorem cc_findPlan (hR : Rp ad K C) (hc : Cl ad σ K) {n c0 : Nat} (hsz : cs_si σ 0 = nI n) (hn4 : n ≤ 4) (hs2 : cs_si σ 2 = nI c0) (hc0 : c0 < 65536) (hz : ∀ r, r < 1024 → cs_sn σ r = 0) {b : Nat} (hb : b < cs_nb σ) (hQ : Qp (cs_F σ n c0).1) : px_W ps_Y ps_P B sc (d + 6) 47 [.ref (ad 3), .ref (ad (20 + 4 * b))] C 0 0 (fun v C' => v = none ∧ ∃ J : cs_J, (∀ r, r < 1024 → J.2.1 r = 0) ∧ (((cs_F σ n c0).2 = 0 ∧ Ck ad (cs_jk (cs_fp σ b) J) K C') ∨ ∃ e L Y, (cs_F σ n c0).2 = e + 1 ∧ Told σ (cs_F σ n c0) e b L Y ∧ Ck ad (cs_jk (cs_yA (cs_sP σ b (nI L)) Y) J) K C')) px_no := by
  have hnb := hc.2.2.2.2.2.2.1
  have h3 : C (ad 3) = some (px_o 3 [.int (nI (cs_ti σ)), .ref (ad 4), .ref (ad 5), .ref (ad 6), .ref (ad 7), .ref (ad 8), .ref (ad 9), .ref (ad 10), .ref (ad 11), .int (cs_si σ 0), .int (cs_si σ 1), .int (nI c0), .int (cs_si σ 3), .int (cs_si σ 4)]) := by rw [← hs2]; exact hR.1 3 _ hc.1.2.2.2
  generalize hF : cs_F σ n c0 = F at hQ ⊢
  refine ⟨pm_Sea_findPlan, rfl, Nat.le_of_ble_eq_true rfl, fun X hw hX => ?_⟩
  have fin : ∀ (σ2 : ck_S) (K2 : rp_K) (C2 : px_P), Rp ad K2 C2 → Cl ad σ2 K2 → (∀ q, 100 ≤ q → K2 q = K q) → Fw σ σ2 → Sq σ2 F → X (56, [(0, .ref (ad 3)), (1, .ref (ad (20 + 4 * b)))], [], C2, 0, 0) := by
    intro σ2 K2 C2 hR2 hc2 hK2 hF2 hS2
    have hb2 : b < cs_nb σ2 := by obtain ⟨J, rfl, -, -⟩ := hF2; exact hb
    have h32 : C2 (ad 3) = some (px_o 3 [.int (nI (cs_ti σ2)), .ref (ad 4), .ref (ad 5), .ref (ad 6), .ref (ad 7), .ref (ad 8), .ref (ad 9), .ref (ad 10), .ref (ad 11), .int (cs_si σ2 0), .int (cs_si σ2 1), .int (cs_si σ2 2), .int (cs_si σ2 3), .int (nI F.2 - 1)]) := by rw [← hS2.2.2.1]; exact hR2.1 3 _ hc2.1.2.2.2
    have hfl : F.2 < 2 ^ 31 := by have := hS2.2.1; have := hS2.2.2.2.1; omega
    iterate 2 refine px_go hX ?_
    refine ⟨_, _, h32, rfl, ?_⟩
    iterate 2 refine px_go hX ?_
    refine ⟨fun (c1 : ¬ nI F.2 - 1 = (-1 : Int32)) => ?_, fun (c1 : nI F.2 - 1 = (-1 : Int32)) => ?_⟩
    · obtain ⟨e, he⟩ : ∃ e, F.2 = e + 1 := ⟨F.2 - 1, by have : F.2 ≠ 0 := fun w => c1 ((nI_m1 hfl).mpr w); omega⟩
      iterate 3 refine px_go hX ?_
      refine ⟨_, h32, 0, 0, _, Nat.le_of_ble_eq_true rfl, Nat.le_of_ble_eq_true rfl, Nat.le_of_ble_eq_true rfl, cc_tellPlan hR2 hc2 hS2 hQ he hb2, ?_⟩
      rintro _ C ⟨rfl, L, Y, t1, t2, t3, ⟨t4, t5⟩, K3, hR3, hc3, hK3⟩
      iterate 2 refine px_go hX ?_
      refine ⟨_, (hR3.1 3 _ hc3.1.2.2.2), 0, 0, _, Nat.le_of_ble_eq_true rfl, Nat.le_of_ble_eq_true rfl, Nat.le_of_ble_eq_true rfl, cc_forgetSeen (σ := cs_yA (cs_sP σ2 b (nI L)) Y) hR3 hc3 (S := F) hS2, ?_⟩
      rintro _ C ⟨rfl, g, hg, K4, hR4, hc4, hK4⟩
      refine px_go hX ?_
      obtain ⟨J, rfl, hJ1, -⟩ := hF2
      exact ⟨rfl, (J.1, g, J.2.2), hg, Or.inr ⟨e, L, Y, he, ⟨t1, t2, t3, t4, fun j x hj hx => by
        obtain ⟨w1, w2, w3⟩ := t5 j x hj hx
        exact ⟨by rw [w1]; exact congrFun (hJ1 0 (by omega)) _, w2, w3⟩⟩, K4, hR4, hc4, fun q hq => (hK4 q hq).trans ((hK3 q hq).trans (hK2 q hq))⟩⟩
    · iterate 2 refine px_go hX ?_
      refine ⟨_, (hR2.1 _ _ (hc2.2.2.1 b hb2).1), 0, 0, _, Nat.le_of_ble_eq_true rfl, Nat.le_of_ble_eq_true rfl, Nat.le_of_ble_eq_true rfl, cc_forgetPlan hR2 hc2 hb2, ?_⟩
      rintro _ C ⟨rfl, K3, hR3, hc3, hK3⟩
      iterate 3 refine px_go hX ?_
      refine ⟨_, (hR3.1 3 _ hc3.1.2.2.2), 0, 0, _, Nat.le_of_ble_eq_true rfl, Nat.le_of_ble_eq_true rfl, Nat.le_of_ble_eq_true rfl, cc_forgetSeen (σ := cs_fp σ2 b) hR3 hc3 (S := F) hS2, ?_⟩
      rintro _ C ⟨rfl, g, hg, K4, hR4, hc4, hK4⟩
      refine px_go hX ?_
      obtain ⟨J, rfl, -, -⟩ := hF2
      exact ⟨rfl, (J.1, g, J.2.2), hg, Or.inl ⟨(nI_m1 hfl).mp c1, K4, hR4, hc4, fun q hq => (hK4 q hq).trans ((hK3 q hq).trans (hK2 q hq))⟩⟩
  have loop : ∀ kk i (S2 : qS) (σ2 : ck_S) (K2 : rp_K) (C2 : px_P), i + kk = 1240 → (Rp ad K2 C2 ∧ Cl ad σ2 K2 ∧ (∀ q, 100 ≤ q → K2 q = K q) ∧ Fw σ σ2 ∧ Sq σ2 S2 ∧ bfs (cs_en σ n) (sucl σ n) (1240 - i) i S2 = F) → X (22, [(0, .ref (ad 3)), (1, .ref (ad (20 + 4 * b))), (2, .int (nI i))], [], C2, 0, 0) := by
    intro kk
    induction kk with
    | zero =>
      intro i S2 σ2 K2 C2 hi ⟨hR2, hc2, hK2, hF2, hS2, hbf⟩
      have hlt : i = 1240 := hi
      have hsz2 : cs_si σ2 0 = nI n := by rw [hF2.si (by omega)]; exact hsz
      have h12 := hS2.2.1
      have h13 := hS2.2.2.2.1
      have h32 : C2 (ad 3) = some (px_o 3 [.int (nI (cs_ti σ2)), .ref (ad 4), .ref (ad 5), .ref (ad 6), .ref (ad 7), .ref (ad 8), .ref (ad 9), .ref (ad 10), .ref (ad 11), .int (cs_si σ2 0), .int (cs_si σ2 1), .int (cs_si σ2 2), .int (nI S2.1.length), .int (nI S2.2 - 1)]) := by rw [← hS2.2.2.1, ← hS2.1]; exact hR2.1 3 _ hc2.1.2.2.2
      iterate 3 refine px_go hX ?_
      refine ⟨fun (c2 : (1240 : Int32) ≤ nI i) => ?_, fun (c2 : ¬ (1240 : Int32) ≤ nI i) => absurd (by rw [hlt]; exact Int32.le_refl _) c2⟩
      exact px_lw hw [(0, .ref (ad 3)), (1, .ref (ad (20 + 4 * b)))] (fin σ2 K2 _ hR2 hc2 hK2 hF2 (by rw [← hbf, hlt]; exact hS2)) ⟨rfl, rfl, trivial⟩
    | succ kk ih =>
      intro i S2 σ2 K2 C2 hi ⟨hR2, hc2, hK2, hF2, hS2, hbf⟩
      have hlt : i < 1240 := by omega
      have hsz2 : cs_si σ2 0 = nI n := by rw [hF2.si (by omega)]; exact hsz
      have h12 := hS2.2.1
      have h13 := hS2.2.2.2.1
      have h32 : C2 (ad 3) = some (px_o 3 [.int (nI (cs_ti σ2)), .ref (ad 4), .ref (ad 5), .ref (ad 6), .ref (ad 7), .ref (ad 8), .ref (ad 9), .ref (ad 10), .ref (ad 11), .int (cs_si σ2 0), .int (cs_si σ2 1), .int (cs_si σ2 2), .int (nI S2.1.length), .int (nI S2.2 - 1)]) := by rw [← hS2.2.2.1, ← hS2.1]; exact hR2.1 3 _ hc2.1.2.2.2
      iterate 3 refine px_go hX ?_
      refine ⟨fun (c3 : (1240 : Int32) ≤ nI i) => absurd c3 (nI_ge hlt (by omega : 1240 < 2 ^ 31)), fun (c3 : ¬ (1240 : Int32) ≤ nI i) => ?_⟩
      iterate 3 refine px_go hX ?_
      refine ⟨_, _, h32, rfl, ?_⟩
      refine px_go hX ?_
      refine ⟨fun (c4 : nI S2.1.length ≤ nI i) => ?_, fun (c4 : ¬ nI S2.1.length ≤ nI i) => ?_⟩
      · exact px_lw hw [(0, .ref (ad 3)), (1, .ref (ad (20 + 4 * b)))] (fin σ2 K2 _ hR2 hc2 hK2 hF2 (by rw [← hbf, bfs_n (Nat.le_of_not_lt (fun w => nI_ge w (by omega) c4))]; exact hS2)) ⟨rfl, rfl, trivial⟩
      · iterate 2 refine px_go hX ?_
        refine ⟨_, _, h32, rfl, ?_⟩
        iterate 2 refine px_go hX ?_
        refine ⟨fun (c5 : ¬ nI S2.2 - 1 = (-1 : Int32)) => ?_, fun (c5 : nI S2.2 - 1 = (-1 : Int32)) => ?_⟩
        · exact px_lw hw [(0, .ref (ad 3)), (1, .ref (ad (20 + 4 * b)))] (fin σ2 K2 _ hR2 hc2 hK2 hF2 (by rw [← hbf, bfs_e (fun w => c5 ((nI_m1 (by omega)).mpr w))]; exact hS2)) ⟨rfl, rfl, trivial⟩
        · obtain ⟨x, hx⟩ : ∃ x, S2.1[i]? = some x := ⟨_, List.getElem?_eq_getElem (Nat.lt_of_not_le (fun w => c4 (nI_le w (by omega))))⟩
          have hz2 : S2.2 = 0 := (nI_m1 (by omega)).mp c5
          rw [show 1240 - i = (1240 - (i + 1)) + 1 by omega, bfs_s hz2 hx] at hbf
          iterate 3 refine px_go hX ?_
          refine ⟨_, h32, 0, 0, _, Nat.le_of_ble_eq_true rfl, Nat.le_of_ble_eq_true rfl, Nat.le_of_ble_eq_true rfl, cc_tryMoves hR2 hc2 hS2 hsz2 hn4 (c := x.1) (pq := x.2) hx, ?_⟩
          rintro _ C ⟨rfl, σ3, K3, hR3, hc3, hK3, hF3, hS3⟩
          have hS3 : Sq σ3 (rchl (cs_en σ2 n) (i + 1) S2 (sucl σ2 n x.1)) := hS3
          rw [hF2.en, hF2.suc] at hS3
          iterate 2 refine px_go hX ?_
          exact px_lw hw [(0, .ref (ad 3)), (1, .ref (ad (20 + 4 * b))), (2, .int (nI (i + 1)))] (ih (i + 1) _ σ3 K3 _ (by omega) ⟨hR3, hc3, fun q hq => (hK3 q hq).trans (hK2 q hq), hF2.tr hF3, hS3, hbf⟩) ⟨rfl, rfl, (congrArg (fun z => some (Value.int z)) (nI_succ _).symm), trivial⟩
  iterate 3 refine px_go hX ?_
  refine ⟨_, h3, Nat.le_of_ble_eq_true rfl, rfl, rfl, ?_⟩
  iterate 3 refine px_go hX ?_
  refine ⟨_, (px_up_s _ _ _), Nat.le_of_ble_eq_true rfl, rfl, rfl, ?_⟩
  have hR0 := ((hR.put (i := 3) hc.1.2.2.2 (px_o 3 [.int (nI (cs_ti σ)), .ref (ad 4), .ref (ad 5), .ref (ad 6), .ref (ad 7), .ref (ad 8), .ref (ad 9), .ref (ad 10), .ref (ad 11), .int (cs_si σ 0), .int (cs_si σ 1), .int (nI c0), .int ((0 : Int32)), .int (cs_si σ 4)])).put (i := 3) (rp_up_s _ _ _) (px_o 3 [.int (nI (cs_ti σ)), .ref (ad 4), .ref (ad 5), .ref (ad 6), .ref (ad 7), .ref (ad 8), .ref (ad 9), .ref (ad 10), .ref (ad 11), .int (cs_si σ 0), .int (cs_si σ 1), .int (nI c0), .int ((0 : Int32)), .int ((-1 : Int32))]))
  have hc0' : Cl ad (cs_sSi σ (fun q => match q with | 0 => cs_si σ 0 | 1 => cs_si σ 1 | 2 => nI c0 | 3 => 0 | _ => -1)) (rp_up (rp_up (K) (3) (px_o 3 [.int (nI (cs_ti σ)), .ref (ad 4), .ref (ad 5), .ref (ad 6), .ref (ad 7), .ref (ad 8), .ref (ad 9), .ref (ad 10), .ref (ad 11), .int (cs_si σ 0), .int (cs_si σ 1), .int (nI c0), .int ((0 : Int32)), .int (cs_si σ 4)])) (3) (px_o 3 [.int (nI (cs_ti σ)), .ref (ad 4), .ref (ad 5), .ref (ad 6), .ref (ad 7), .ref (ad 8), .ref (ad 9), .ref (ad 10), .ref (ad 11), .int (cs_si σ 0), .int (cs_si σ 1), .int (nI c0), .int ((0 : Int32)), .int ((-1 : Int32))])) := by
    rw [rp_up_up]
    exact hc.sSi _
  have hK0 : ∀ zz, 100 ≤ zz → (rp_up (rp_up (K) (3) (px_o 3 [.int (nI (cs_ti σ)), .ref (ad 4), .ref (ad 5), .ref (ad 6), .ref (ad 7), .ref (ad 8), .ref (ad 9), .ref (ad 10), .ref (ad 11), .int (cs_si σ 0), .int (cs_si σ 1), .int (nI c0), .int ((0 : Int32)), .int (cs_si σ 4)])) (3) (px_o 3 [.int (nI (cs_ti σ)), .ref (ad 4), .ref (ad 5), .ref (ad 6), .ref (ad 7), .ref (ad 8), .ref (ad 9), .ref (ad 10), .ref (ad 11), .int (cs_si σ 0), .int (cs_si σ 1), .int (nI c0), .int ((0 : Int32)), .int ((-1 : Int32))])) zz = (K) zz := fun zz hzz => by rw [rp_up_n _ _ (by omega), rp_up_n _ _ (by omega)]
  have hF0 : Fw σ (cs_sSi σ (fun q => match q with | 0 => cs_si σ 0 | 1 => cs_si σ 1 | 2 => nI c0 | 3 => 0 | _ => -1)) := ⟨_, rfl, fun _ _ => rfl, fun q hq => by
    match q, hq with
    | 0, _ => rfl
    | 1, _ => rfl
    | 2, _ => exact hs2.symm⟩
  have hS0 : Sq (cs_sSi σ (fun q => match q with | 0 => cs_si σ 0 | 1 => cs_si σ 1 | 2 => nI c0 | 3 => 0 | _ => -1)) ([], 0) := by
    refine ⟨rfl, by decide, (by decide +kernel : (-1 : Int32) = nI 0 - 1), Nat.le_refl 0, fun i x hx => (by simp at hx), fun c hc => ?_⟩
    show lb (cs_sn σ (c / 64)) (c % 64) = true ↔ c ∈ []
    rw [hz _ (by omega), lb_0]
    simp
  iterate 3 refine px_go hX ?_
  refine ⟨_, _, (px_up_s _ _ _), rfl, ?_⟩
  iterate 3 refine px_go hX ?_
  refine ⟨_, (px_up_s _ _ _), 0, 0, _, Nat.le_of_ble_eq_true rfl, Nat.le_of_ble_eq_true rfl, Nat.le_of_ble_eq_true rfl, cc_reachS (n := n) hR0 hc0' hS0 hc0 hsz hn4 0 0 (by decide +kernel), ?_⟩
  rintro _ C ⟨rfl, σ1, K1, hR1, hc1, hK1, hF1, hS1⟩
  have hF1 := hF0.tr hF1.w
  have hK1 : ∀ q, 100 ≤ q → K1 q = K q := fun q hq => (hK1 q hq).trans (hK0 q hq)
  iterate 2 refine px_go hX ?_
  exact px_lw hw [(0, .ref (ad 3)), (1, .ref (ad (20 + 4 * b))), (2, .int (nI 0))] (loop (1240 - 0) 0 _ σ1 K1 _ (by omega) ⟨hR1, hc1, hK1, hF1, hS1, hF⟩) ⟨rfl, rfl, rfl, trivial⟩
end RT
