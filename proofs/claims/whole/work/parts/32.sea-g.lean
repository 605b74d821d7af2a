/-! The plan is told along the way back. -/
/-- the places on the way back -/
def anc (Q : List qE) (e : Nat) : Nat → Nat
  | 0 => e
  | j + 1 => match Q[anc Q e j]? with
    | some x => x.2.1 - 1
    | none => 0
theorem anc_s {Q : List qE} {e j : Nat} {x : qE} (h : Q[anc Q e j]? = some x) : anc Q e (j + 1) = x.2.1 - 1 := by
  show (match Q[anc Q e j]? with | some x => x.2.1 - 1 | none => 0) = _
  rw [h]
/-- a queue whose entries came from before -/
def Qp (Q : List qE) : Prop := ∀ (i : Nat) (x : qE), Q[i]? = some x → x.2.1 ≤ i ∧ (0 < i → 1 ≤ x.2.1) ∧ x.2.2 < 256
theorem anc_le {Q : List qE} (hQ : Qp Q) {e : Nat} : ∀ j, anc Q e j ≤ e
  | 0 => Nat.le_refl e
  | j + 1 => by
    have ih := anc_le hQ (e := e) j
    cases h : Q[anc Q e j]? with
    | none =>
      show (match Q[anc Q e j]? with | some x => x.2.1 - 1 | none => 0) ≤ e
      rw [h]
      exact Nat.zero_le e
    | some x =>
      rw [anc_s h]
      have := (hQ _ _ h).1
      omega
def cs_yA (σ : ck_S) (Y : Nat → Nat → Nat → Int32) : ck_S := (σ.1, σ.2.1, σ.2.2.1, σ.2.2.2.1, Y, σ.2.2.2.2.2)
def yS (Y : Nat → Nat → Nat → Int32) (b k : Nat) (g : Nat → Int32) : Nat → Nat → Nat → Int32 := va_up Y b (va_up (Y b) k g)
theorem yS_s (Y : Nat → Nat → Nat → Int32) (b k : Nat) (g : Nat → Int32) : yS Y b k g b k = g := by
  unfold yS
  rw [va_up_self, va_up_self]
theorem yS_k (Y : Nat → Nat → Nat → Int32) (b : Nat) {k k' : Nat} (g : Nat → Int32) (h : k' ≠ k) : yS Y b k g b k' = Y b k' := by
  unfold yS
  rw [va_up_self, va_up_ne _ _ h]
theorem yS_n (Y : Nat → Nat → Nat → Int32) {b b' : Nat} (k : Nat) (g : Nat → Int32) (h : b' ≠ b) : yS Y b k g b' = Y b' := va_up_ne _ _ h
def yMv (Y : Nat → Nat → Nat → Int32) (b i : Nat) (x y z : Int32) : Nat → Nat → Nat → Int32 := yS (yS (yS Y b 0 (upd (Y b 0) i x)) b 1 (upd (Y b 1) i y)) b 2 (upd (Y b 2) i z)
theorem yMv_0 (Y : Nat → Nat → Nat → Int32) (b i : Nat) (x y z : Int32) : yMv Y b i x y z b 0 = upd (Y b 0) i x := by
  unfold yMv
  rw [yS_k _ _ _ (by omega), yS_k _ _ _ (by omega), yS_s]
theorem yMv_1 (Y : Nat → Nat → Nat → Int32) (b i : Nat) (x y z : Int32) : yMv Y b i x y z b 1 = upd (Y b 1) i y := by
  unfold yMv
  rw [yS_k _ _ _ (by omega), yS_s]
theorem yMv_2 (Y : Nat → Nat → Nat → Int32) (b i : Nat) (x y z : Int32) : yMv Y b i x y z b 2 = upd (Y b 2) i z := by
  unfold yMv
  rw [yS_s]
theorem yMv_n (Y : Nat → Nat → Nat → Int32) {b b' : Nat} (i : Nat) (x y z : Int32) (h : b' ≠ b) : yMv Y b i x y z b' = Y b' := by
  unfold yMv
  rw [yS_n _ _ _ h, yS_n _ _ _ h, yS_n _ _ _ h]
theorem cs_sP_0 (σ : ck_S) (b : Nat) (x : Int32) : cs_yf (cs_sP σ b x) b 0 = 1 := by
  show va_up (cs_yf (cs_fp σ b)) b _ b 0 = _
  rw [va_up_self]
  rfl
theorem cs_sP_1 (σ : ck_S) (b : Nat) (x : Int32) : cs_yf (cs_sP σ b x) b 1 = x := by
  show va_up (cs_yf (cs_fp σ b)) b _ b 1 = _
  rw [va_up_self]
  rfl
theorem cs_sP_2 (σ : ck_S) (b : Nat) (x : Int32) : cs_yf (cs_sP σ b x) b 2 = 0 := by
  show va_up (cs_yf (cs_fp σ b)) b _ b 2 = _
  rw [va_up_self]
  show va_up (cs_yf σ) b _ b 2 = _
  rw [va_up_self]
  rfl
theorem cs_sP_3 (σ : ck_S) (b : Nat) (x : Int32) : cs_yf (cs_sP σ b x) b 3 = cs_yf σ b 3 := by
  show va_up (cs_yf (cs_fp σ b)) b _ b 3 = _
  rw [va_up_self]
  show va_up (cs_yf σ) b _ b 3 = _
  rw [va_up_self]
  rfl
theorem cs_sP_n (σ : ck_S) {b b' : Nat} (x : Int32) (h : b' ≠ b) : cs_yf (cs_sP σ b x) b' = cs_yf σ b' := by
  show va_up (cs_yf (cs_fp σ b)) b _ b' = _
  rw [va_up_ne _ _ h]
  exact va_up_ne _ _ h
theorem ie_s6 {s : Nat} (hs : s < 256) : (nI s >>> ((6 : Int32) &&& 31)) &&& 3 = nI (s / 64 % 4) := by
  rw [pk_shrN (by omega) _ 6 (by decide +kernel), pk_andN (by omega) 2 (by decide +kernel)]
theorem ie_s3 {s : Nat} (hs : s < 256) : (nI s >>> ((3 : Int32) &&& 31)) &&& 7 = nI (s / 8 % 8) := by
  rw [pk_shrN (by omega) _ 3 (by decide +kernel), pk_andN (by omega) 3 (by decide +kernel)]
theorem ie_s0 {s : Nat} (hs : s < 256) : nI s &&& 7 = nI (s % 8) := pk_andN (by omega) 3 (by decide +kernel)
section RS
variable {B : Nat} {sc : Option (Nat × Nat × (Nat → Int32))} {d : Nat} {ad : Nat → Nat} {σ : ck_S} {K : rp_K} {C : px_P}
theorem cc_tellPlan (hR : Rp ad K C) (hc : Cl ad σ K) {S : qS} (hS : Sq σ S) (hQ : Qp S.1) {e : Nat} (he : S.2 = e + 1) {b : Nat} (hb : b < cs_nb σ) : px_W ps_Y ps_P B sc (d + 3) 45 [.ref (ad 3), .ref (ad (20 + 4 * b))] C 0 0 (fun v C' => v = none ∧ ∃ (L : Nat) (Y : Nat → Nat → Nat → Int32), L ≤ 12 ∧ (∀ j, j < L → 0 < anc S.1 e j) ∧ (anc S.1 e L = 0 ∨ L = 12) ∧ ((∀ b', b' ≠ b → Y b' = cs_ya σ b') ∧ ∀ (j : Nat) (x : qE), j < L → S.1[anc S.1 e j]? = some x → Y b 0 (L - 1 - j) = cs_sa σ 0 (x.2.2 / 64 % 4) ∧ Y b 1 (L - 1 - j) = nI (x.2.2 / 8 % 8) ∧ Y b 2 (L - 1 - j) = nI (x.2.2 % 8)) ∧ Ck ad (cs_yA (cs_sP σ b (nI L)) Y) K C') px_no := by
  have hnb := hc.2.2.2.2.2.2.1
  have hby := hR.1 _ _ (hc.2.2.1 b hb).1
  have hel : e < S.1.length := by have := hS.2.2.2.1; omega
  have h1240 := hS.2.1
  have hal : ∀ j, anc S.1 e j < S.1.length := fun j => Nat.lt_of_le_of_lt (anc_le hQ j) hel
  have h4 : cs_si σ 4 = nI e := by rw [hS.2.2.1, he, nI_pred]
  refine ⟨pm_Sea_tellPlan, rfl, Nat.le_of_ble_eq_true rfl, fun X hw hX => ?_⟩
  have h3 : C (ad 3) = some (px_o 3 [.int (nI (cs_ti σ)), .ref (ad 4), .ref (ad 5), .ref (ad 6), .ref (ad 7), .ref (ad 8), .ref (ad 9), .ref (ad 10), .ref (ad 11), .int (cs_si σ 0), .int (cs_si σ 1), .int (cs_si σ 2), .int (cs_si σ 3), .int (nI e)]) := by rw [← h4]; exact hR.1 3 _ hc.1.2.2.2
  have fin : ∀ L, L ≤ 12 → (∀ j, j < L → 0 < anc S.1 e j) → (anc S.1 e L = 0 ∨ L = 12) → X (37, [(0, .ref (ad 3)), (1, .ref (ad (20 + 4 * b))), (2, .int (nI L))], [], C, 0, 0) := by
    intro L hL hpos hend
    iterate 3 refine px_go hX ?_
    refine ⟨_, hby, 0, 0, _, Nat.le_of_ble_eq_true rfl, Nat.le_of_ble_eq_true rfl, Nat.le_of_ble_eq_true rfl, cc_startPlan hR hc hb _, ?_⟩
    rintro _ C ⟨rfl, K1, hR1, hc1, hK1⟩
    have h3 : C (ad 3) = some (px_o 3 [.int (nI (cs_ti σ)), .ref (ad 4), .ref (ad 5), .ref (ad 6), .ref (ad 7), .ref (ad 8), .ref (ad 9), .ref (ad 10), .ref (ad 11), .int (cs_si σ 0), .int (cs_si σ 1), .int (cs_si σ 2), .int (cs_si σ 3), .int (nI e)]) := by rw [← h4]; exact hR1.1 3 _ hc1.1.2.2.2
    iterate 2 refine px_go hX ?_
    refine ⟨_, _, h3, rfl, ?_⟩
    iterate 5 refine px_go hX ?_
    have loop2 : ∀ kk i (Y : Nat → Nat → Nat → Int32) (K2 : rp_K) (C2 : px_P), i + kk = L → (Rp ad K2 C2 ∧ Cl ad (cs_yA (cs_sP σ b (nI L)) Y) K2 ∧ (∀ q, 100 ≤ q → K2 q = K q) ∧ (∀ b', b' ≠ b → Y b' = cs_ya σ b') ∧ ∀ (j : Nat) (x : qE), j < i → S.1[anc S.1 e j]? = some x → Y b 0 (L - 1 - j) = cs_sa σ 0 (x.2.2 / 64 % 4) ∧ Y b 1 (L - 1 - j) = nI (x.2.2 / 8 % 8) ∧ Y b 2 (L - 1 - j) = nI (x.2.2 % 8)) → X (52, [(0, .ref (ad 3)), (1, .ref (ad (20 + 4 * b))), (3, .int (nI (anc S.1 e i))), (4, .int (nI (L - i) - 1))], [], C2, 0, 0) := by
      intro kk
      induction kk with
      | zero =>
        intro i Y K2 C2 hi ⟨hR2, hc2, hK2, hYn, hY⟩
        have hlt : i = L := hi
        have h3 : C2 (ad 3) = some (px_o 3 [.int (nI (cs_ti σ)), .ref (ad 4), .ref (ad 5), .ref (ad 6), .ref (ad 7), .ref (ad 8), .ref (ad 9), .ref (ad 10), .ref (ad 11), .int (cs_si σ 0), .int (cs_si σ 1), .int (cs_si σ 2), .int (cs_si σ 3), .int (nI e)]) := by rw [← h4]; exact hR2.1 3 _ hc2.1.2.2.2
        iterate 2 refine px_go hX ?_
        refine ⟨fun (c1 : nI (L - i) - 1 < 0) => ?_, fun (c1 : ¬ nI (L - i) - 1 < 0) => absurd (by rw [hlt, Nat.sub_self]; decide +kernel) c1⟩
        refine px_go hX ?_
        rw [hlt] at hY
        exact ⟨rfl, L, Y, hL, hpos, hend, ⟨hYn, hY⟩, K2, hR2, hc2, hK2⟩
      | succ kk ih =>
        intro i Y K2 C2 hi ⟨hR2, hc2, hK2, hYn, hY⟩
        have hlt : i < L := by omega
        have h3 : C2 (ad 3) = some (px_o 3 [.int (nI (cs_ti σ)), .ref (ad 4), .ref (ad 5), .ref (ad 6), .ref (ad 7), .ref (ad 8), .ref (ad 9), .ref (ad 10), .ref (ad 11), .int (cs_si σ 0), .int (cs_si σ 1), .int (cs_si σ 2), .int (cs_si σ 3), .int (nI e)]) := by rw [← h4]; exact hR2.1 3 _ hc2.1.2.2.2
        iterate 2 refine px_go hX ?_
        refine ⟨fun (c2 : nI (L - i) - 1 < 0) => absurd (by rw [show L - i = (L - i - 1) + 1 by omega, nI_pred] at c2; exact c2) (nI_pos (by omega : L - i - 1 < 2 ^ 31)), fun (c2 : ¬ nI (L - i) - 1 < 0) => ?_⟩
        iterate 2 refine px_go hX ?_
        refine ⟨fun (c3 : nI (anc S.1 e i) ≤ 0) => absurd c3 (nI_nle (hpos i hlt) (by have := hal i; omega)), fun (c3 : ¬ nI (anc S.1 e i) ≤ 0) => ?_⟩
        iterate 3 refine px_go hX ?_
        refine ⟨fun (c4 : (1240 : Int32) ≤ nI (anc S.1 e i)) => absurd c4 (nI_ge (by have := hal i; omega : anc S.1 e i < 1240) (by omega : 1240 < 2 ^ 31)), fun (c4 : ¬ (1240 : Int32) ≤ nI (anc S.1 e i)) => ?_⟩
        obtain ⟨x, hx⟩ : ∃ x, S.1[anc S.1 e i]? = some x := ⟨_, List.getElem?_eq_getElem (hal i)⟩
        obtain ⟨-, hx5, hx6, -⟩ := hS.2.2.2.2.1 _ x hx
        obtain ⟨hp1, hp2, hx256⟩ := hQ _ x hx
        have hpar : cs_sa σ 5 (anc S.1 e i) = nI (anc S.1 e (i + 1)) := by
          rw [hx5, anc_s hx]
          have := hp2 (hpos i hlt)
          rw [show x.2.1 = (x.2.1 - 1) + 1 by omega, nI_pred]
          rfl
        iterate 2 refine px_go hX ?_
        refine ⟨_, _, h3, rfl, ?_⟩
        iterate 2 refine px_go hX ?_
        refine ⟨_, _, (hR2.1 10 _ hc2.2.1.2.2.2.2.2.2.1), (vp_in_nI (by have := hal i; omega) (by omega)), ?_⟩
        rw [nI_clamp (by have := hal i; omega), show cs_sa (cs_yA (cs_sP σ b (nI L)) Y) 6 (anc S.1 e i) = nI x.2.2 from hx6]
        iterate 5 refine px_go hX ?_
        refine ⟨_, _, h3, rfl, ?_⟩
        iterate 6 refine px_go hX ?_
        refine ⟨_, _, (hR2.1 4 _ hc2.2.1.1), (by rw [show (nI x.2.2 >>> (px_ic 6 &&& 31)) &&& px_ic 3 = nI (x.2.2 / 64 % 4) from ie_s6 hx256]; exact vp_in_nI (by omega) (by omega)), ?_⟩
        rw [show ((nI x.2.2 >>> (px_ic 6 &&& 31)) &&& px_ic 3) = nI (x.2.2 / 64 % 4) from ie_s6 hx256, nI_clamp (by omega)]
        iterate 9 refine px_go hX ?_
        refine ⟨_, (hR2.1 _ _ (hc2.2.2.1 b hb).1), 0, 0, _, Nat.le_of_ble_eq_true rfl, Nat.le_of_ble_eq_true rfl, Nat.le_of_ble_eq_true rfl, (by rw [show L - i = (L - i - 1) + 1 by omega, nI_pred, show ((nI x.2.2 >>> (px_ic 3 &&& 31)) &&& px_ic 7) = nI (x.2.2 / 8 % 8) from ie_s3 hx256, show (nI x.2.2 &&& px_ic 7) = nI (x.2.2 % 8) from ie_s0 hx256]; exact cc_setMove (σ := cs_yA (cs_sP σ b (nI L)) Y) hR2 hc2 hb (by omega : L - i - 1 < 12) ⟨by rw [show cs_yf (cs_yA (cs_sP σ b (nI L)) Y) b 0 = 1 from cs_sP_0 σ b _]; decide, nI_pos (by omega : L - i - 1 < 2 ^ 31), by rw [show cs_yf (cs_yA (cs_sP σ b (nI L)) Y) b 1 = nI L from cs_sP_1 σ b _]; exact nI_ge (by omega : L - i - 1 < L) (by omega : L < 2 ^ 31), nI_ge (by omega : L - i - 1 < 12) (by omega : 12 < 2 ^ 31)⟩ (cs_sa σ 0 (x.2.2 / 64 % 4)) (nI (x.2.2 / 8 % 8)) (nI (x.2.2 % 8))), ?_⟩
        rintro _ C ⟨rfl, K3, hR3, hc3, hK3⟩
        iterate 2 refine px_go hX ?_
        refine ⟨_, _, (hR3.1 3 _ hc3.1.2.2.2), rfl, ?_⟩
        iterate 2 refine px_go hX ?_
        refine ⟨_, _, (hR3.1 9 _ hc3.2.1.2.2.2.2.2.1), (vp_in_nI (by have := hal i; omega) (by omega)), ?_⟩
        rw [nI_clamp (by have := hal i; omega), show cs_sa (cs_sMv (cs_yA (cs_sP σ b (nI L)) Y) b (L - i - 1) (cs_sa σ 0 (x.2.2 / 64 % 4)) (nI (x.2.2 / 8 % 8)) (nI (x.2.2 % 8))) 5 (anc S.1 e i) = nI (anc S.1 e (i + 1)) from hpar]
        iterate 3 refine px_go hX ?_
        exact px_lw hw [(0, .ref (ad 3)), (1, .ref (ad (20 + 4 * b))), (3, .int (nI (anc S.1 e (i + 1)))), (4, .int (nI (L - (i + 1)) - 1))] (ih (i + 1) (yMv Y b (L - i - 1) (cs_sa σ 0 (x.2.2 / 64 % 4)) (nI (x.2.2 / 8 % 8)) (nI (x.2.2 % 8))) K3 _ (by omega) ⟨hR3, hc3, fun q hq => (hK3 q hq).trans (hK2 q hq), fun b' hb' => (yMv_n _ _ _ _ _ hb').trans (hYn b' hb'), fun j y hj hy => by
                  rw [yMv_0, yMv_1, yMv_2]
                  rcases Nat.lt_succ_iff_lt_or_eq.mp hj with h | h
                  · rw [pk_un (by omega), pk_un (by omega), pk_un (by omega)]
                    exact hY j y h hy
                  · rw [h, hx] at hy
                    rw [h, ← Option.some.inj hy, show L - 1 - i = L - i - 1 by omega, pk_us, pk_us, pk_us]
                    exact ⟨rfl, rfl, rfl⟩⟩) ⟨rfl, rfl, rfl, (congrArg (fun z => some (Value.int z)) (by rw [show L - i = (L - (i + 1)) + 1 by omega, nI_pred]; exact (Int32.sub_eq_add_neg _ _).symm)), trivial⟩
    exact px_lw hw [(0, .ref (ad 3)), (1, .ref (ad (20 + 4 * b))), (3, .int (nI (anc S.1 e 0))), (4, .int (nI (L - 0) - 1))] (loop2 (L - 0) 0 (cs_ya σ) K1 _ (by omega) ⟨hR1, hc1, hK1, fun _ _ => rfl, fun j x hj => absurd hj (Nat.not_lt_zero j)⟩) ⟨rfl, rfl, rfl, rfl, trivial⟩
  have loop : ∀ kk i, i + kk = 12 → (∀ j, j < i → 0 < anc S.1 e j) → X (7, [(0, .ref (ad 3)), (1, .ref (ad (20 + 4 * b))), (2, .int (nI i)), (3, .int (nI (anc S.1 e i)))], [], C, 0, 0) := by
    intro kk
    induction kk with
    | zero =>
      intro i hi hyp
      have hlt : i = 12 := hi
      iterate 2 refine px_go hX ?_
      refine ⟨fun (c5 : nI (anc S.1 e i) ≤ 0) => ?_, fun (c5 : ¬ nI (anc S.1 e i) ≤ 0) => ?_⟩
      · exact px_lw hw [(0, .ref (ad 3)), (1, .ref (ad (20 + 4 * b))), (2, .int (nI i))] (fin i (by omega) hyp (Or.inl (Nat.le_zero.mp (Nat.le_of_not_lt (fun w => nI_nle w (by have := hal i; omega) c5))))) ⟨rfl, rfl, rfl, trivial⟩
      · iterate 3 refine px_go hX ?_
        refine ⟨fun (c6 : (1240 : Int32) ≤ nI (anc S.1 e i)) => absurd c6 (nI_ge (by have := hal i; omega : anc S.1 e i < 1240) (by omega : 1240 < 2 ^ 31)), fun (c6 : ¬ (1240 : Int32) ≤ nI (anc S.1 e i)) => ?_⟩
        iterate 3 refine px_go hX ?_
        refine ⟨fun (c7 : (12 : Int32) ≤ nI i) => ?_, fun (c7 : ¬ (12 : Int32) ≤ nI i) => absurd (by rw [hlt]; exact Int32.le_refl _) c7⟩
        exact px_lw hw [(0, .ref (ad 3)), (1, .ref (ad (20 + 4 * b))), (2, .int (nI i))] (fin i (by omega) hyp (Or.inr hlt)) ⟨rfl, rfl, rfl, trivial⟩
    | succ kk ih =>
      intro i hi hyp
      have hlt : i < 12 := by omega
      iterate 2 refine px_go hX ?_
      refine ⟨fun (c8 : nI (anc S.1 e i) ≤ 0) => ?_, fun (c8 : ¬ nI (anc S.1 e i) ≤ 0) => ?_⟩
      · exact px_lw hw [(0, .ref (ad 3)), (1, .ref (ad (20 + 4 * b))), (2, .int (nI i))] (fin i (by omega) hyp (Or.inl (Nat.le_zero.mp (Nat.le_of_not_lt (fun w => nI_nle w (by have := hal i; omega) c8))))) ⟨rfl, rfl, rfl, trivial⟩
      · iterate 3 refine px_go hX ?_
        refine ⟨fun (c9 : (1240 : Int32) ≤ nI (anc S.1 e i)) => absurd c9 (nI_ge (by have := hal i; omega : anc S.1 e i < 1240) (by omega : 1240 < 2 ^ 31)), fun (c9 : ¬ (1240 : Int32) ≤ nI (anc S.1 e i)) => ?_⟩
        iterate 3 refine px_go hX ?_
        refine ⟨fun (c10 : (12 : Int32) ≤ nI i) => absurd c10 (nI_ge hlt (by omega : 12 < 2 ^ 31)), fun (c10 : ¬ (12 : Int32) ≤ nI i) => ?_⟩
        obtain ⟨x, hx⟩ : ∃ x, S.1[anc S.1 e i]? = some x := ⟨_, List.getElem?_eq_getElem (hal i)⟩
        obtain ⟨-, hx5, hx6, -⟩ := hS.2.2.2.2.1 _ x hx
        obtain ⟨hp1, hp2, hx256⟩ := hQ _ x hx
        have hpos2 : 0 < anc S.1 e i := by
          rcases Nat.eq_zero_or_pos (anc S.1 e i) with h | h
          · rw [h] at c8
            exact absurd (Int32.le_refl _) c8
          · exact h
        have hpar : cs_sa σ 5 (anc S.1 e i) = nI (anc S.1 e (i + 1)) := by
          rw [hx5, anc_s hx]
          have := hp2 hpos2
          rw [show x.2.1 = (x.2.1 - 1) + 1 by omega, nI_pred]
          rfl
        iterate 3 refine px_go hX ?_
        refine ⟨_, _, h3, rfl, ?_⟩
        iterate 2 refine px_go hX ?_
        refine ⟨_, _, (hR.1 9 _ hc.2.1.2.2.2.2.2.1), (vp_in_nI (by have := hal i; omega) (by omega)), ?_⟩
        rw [nI_clamp (by have := hal i; omega), hpar]
        iterate 2 refine px_go hX ?_
        exact px_lw hw [(0, .ref (ad 3)), (1, .ref (ad (20 + 4 * b))), (2, .int (nI (i + 1))), (3, .int (nI (anc S.1 e (i + 1))))] (ih (i + 1) (by omega) (pn_alls hyp hpos2)) ⟨rfl, rfl, (congrArg (fun z => some (Value.int z)) (nI_succ _).symm), rfl, trivial⟩
  iterate 4 refine px_go hX ?_
  refine ⟨_, _, h3, rfl, ?_⟩
  iterate 1 refine px_go hX ?_
  exact px_lw hw [(0, .ref (ad 3)), (1, .ref (ad (20 + 4 * b))), (2, .int (nI 0)), (3, .int (nI (anc S.1 e 0)))] (loop (12 - 0) 0 (by omega) (fun j hj => absurd hj (Nat.not_lt_zero j))) ⟨rfl, rfl, rfl, rfl, trivial⟩
end RS
