/-! The class's constructor. -/
theorem clp_e (x : Int32) : (if px_ic 1 < (if x < px_ic 4 then x else px_ic 4) then (if x < px_ic 4 then x else px_ic 4) else px_ic 1) = nI (clp x) := by
  show (if (1 : Int32) < (if x < 4 then x else 4) then (if x < 4 then x else 4) else 1) = nI (clp x)
  have c1 : (1 : Int32).toInt = 1 := by decide
  have c4 : (4 : Int32).toInt = 4 := by decide
  by_cases h1 : 1 ≤ x
  · by_cases h : x ≤ 4
    · rw [(clp_d h1 h).1]
      by_cases h4 : x < 4
      · rw [if_pos h4]
        by_cases h2 : 1 < x
        · rw [if_pos h2]
        · rw [if_neg h2]
          apply Int32.toInt_inj.mp
          rw [Int32.lt_iff_toInt_lt] at h2
          rw [Int32.le_iff_toInt_le] at h1
          omega
      · rw [if_neg h4, if_pos (by decide)]
        apply Int32.toInt_inj.mp
        rw [Int32.lt_iff_toInt_lt] at h4
        rw [Int32.le_iff_toInt_le] at h
        omega
    · have h4 : ¬ x < 4 := fun w => h (by rw [Int32.le_iff_toInt_le]; rw [Int32.lt_iff_toInt_lt] at w; omega)
      rw [clp_b h1 h, if_neg h4, if_pos (by decide)]
  · rw [clp_a h1]
    have h4 : x < 4 := by
      rw [Int32.lt_iff_toInt_lt]
      rw [Int32.le_iff_toInt_le] at h1
      omega
    rw [if_pos h4, if_neg (fun w => h1 (by rw [Int32.le_iff_toInt_le]; rw [Int32.lt_iff_toInt_lt] at w; omega))]
section UC
variable {B : Nat} {sc : Option (Nat × Nat × (Nat → Int32))} {d : Nat} {ad : Nat → Nat} {K : rp_K} {C : px_P}
def cs_0 (nb ti : Nat) : ck_S := ((nb, ti, 0), (0, 0), fun _ _ => 0, fun _ _ => 0, fun _ _ _ => 0, fun _ _ => 0, fun _ => 0, fun q => match q with | 4 => -1 | _ => 0)
abbrev mo_o (x y z : Value) (ti : Int32) : px_E := px_o 0 [.int ti, x, y, z, .int 0, .int 0, .int 0]
abbrev ba_o (ad : Nat → Nat) (b : Nat) : px_E := px_o 1 [.ref (ad (20 + 4 * b + 1)), .ref (ad (20 + 4 * b + 2)), .ref (ad (20 + 4 * b + 3)), .int 0, .int 0, .int 0, .int 0]
/-- the class while its bays are made -/
def MI (ad0 : Nat → Nat) (K0 : rp_K) (a nb ti : Nat) (ad : Nat → Nat) (K : rp_K) (i : Nat) : Prop :=
  ad 0 = a ∧ K 0 = some (mo_o (.ref (ad 1)) (.ref (ad 2)) .null (nI ti)) ∧ K 1 = some (px_r 3 nb (fun b => if b < i then some (ad (20 + 4 * b)) else none)) ∧ K 2 = some (px_r 4 16 (fun _ => none)) ∧
  (∀ b, b < i → K (20 + 4 * b) = some (ba_o ad b) ∧ K (20 + 4 * b + 1) = some (px_i 12 (fun _ => 0)) ∧ K (20 + 4 * b + 2) = some (px_i 12 (fun _ => 0)) ∧ K (20 + 4 * b + 3) = some (px_i 12 (fun _ => 0))) ∧
  (∀ j, 3 ≤ j → j < 100 → ¬ (20 ≤ j ∧ j < 20 + 4 * i) → K j = none) ∧ ∀ j, 100 ≤ j → K j = K0 j ∧ ad j = ad0 j
theorem ci_Mo (hR : Rp ad K C) {a : Nat} {x y : Int32} (ha : ad 0 = a) (hk : K 0 = some (mo_o .null .null .null 0)) (hno : ∀ j, 1 ≤ j → j < 100 → K j = none) : px_W ps_Y ps_P B sc (d + 2) 2 [.ref a, .int x, .int y] C 27 4964 (fun v C' => v = none ∧ ∃ ad' K', Rp ad' K' C' ∧ Cl ad' (cs_0 (clp x) (clp y)) K' ∧ (∀ j, 100 ≤ j → K' j = K j ∧ ad' j = ad j) ∧ ad' 0 = a) px_no := by
  have hx1 := clp_1 x
  have hy1 := clp_1 y
  refine ⟨pm_Mo_init, rfl, Nat.le_of_ble_eq_true rfl, fun X hw hX => ?_⟩
  iterate 2 refine px_go hX ?_
  refine ⟨Nat.le_of_ble_eq_true rfl, ?_⟩
  iterate 3 refine px_go hX ?_
  refine ⟨by decide +kernel, by decide +kernel, Nat.le_of_ble_eq_true rfl, Nat.le_of_ble_eq_true rfl, fun q2 hq2n hq2b => ?_⟩
  have r1 := hR.new (i := 2) (q := q2) (hno 2 (by omega) (by omega)) hq2n (px_r 4 16 (fun _ => none))
  have a1 : va_up ad 2 q2 0 = a := (va_up_ne _ _ (by omega)).trans ha
  have k1 : rp_up K 2 (px_r 4 16 (fun _ => none)) 0 = some (mo_o .null .null .null 0) := (rp_up_n _ _ (by omega)).trans hk
  refine px_go hX ?_
  refine ⟨_, r1.at2 a1 k1, Nat.le_of_ble_eq_true rfl, rfl, rfl, ?_⟩
  have R1 := r1.put2 a1 k1 (mo_o .null (.ref q2) .null 0)
  iterate 3 refine px_go hX ?_
  refine ⟨_, R1.at2 a1 (rp_up_s _ _ _), Nat.le_of_ble_eq_true rfl, rfl, rfl, ?_⟩
  have R2 := R1.put2 a1 (rp_up_s _ _ _) (mo_o .null (.ref q2) .null 0)
  iterate 3 refine px_go hX ?_
  refine ⟨_, R2.at2 a1 (rp_up_s _ _ _), Nat.le_of_ble_eq_true rfl, rfl, rfl, ?_⟩
  have R3 := R2.put2 a1 (rp_up_s _ _ _) (mo_o .null (.ref q2) .null 0)
  iterate 3 refine px_go hX ?_
  refine ⟨_, R3.at2 a1 (rp_up_s _ _ _), Nat.le_of_ble_eq_true rfl, rfl, rfl, ?_⟩
  have R4 := R3.put2 a1 (rp_up_s _ _ _) (mo_o .null (.ref q2) .null 0)
  iterate 4 refine px_go hX ?_
  refine ⟨Nat.le_of_ble_eq_true rfl, ?_⟩
  refine px_go hX ?_
  refine ⟨Nat.le_of_ble_eq_true rfl, ?_⟩
  rw [clp_e x]
  iterate 6 refine px_go hX ?_
  refine ⟨Nat.le_of_ble_eq_true rfl, ?_⟩
  refine px_go hX ?_
  refine ⟨Nat.le_of_ble_eq_true rfl, ?_⟩
  rw [clp_e y]
  refine px_go hX ?_
  refine ⟨_, R4.at2 a1 (rp_up_s _ _ _), Nat.le_of_ble_eq_true rfl, rfl, rfl, ?_⟩
  have R5 := R4.put2 a1 (rp_up_s _ _ _) (mo_o .null (.ref q2) .null (nI (clp y)))
  iterate 3 refine px_go hX ?_
  have hcl : (nI (clp x)).toNatClampNeg = clp x := nI_clamp (by omega)
  refine ⟨nI_pos (by omega), by rw [hcl]; omega, Nat.le_of_ble_eq_true rfl, by rw [hcl]; show 0 + 16 + clp x ≤ 4964; omega, fun q1 hq1n hq1b => ?_⟩
  rw [hcl]
  rw [hcl] at *
  have r6 := R5.new (i := 1) (q := q1) ((rp_up_n _ _ (by omega)).trans ((rp_up_n _ _ (by omega)).trans ((rp_up_n _ _ (by omega)).trans ((rp_up_n _ _ (by omega)).trans ((rp_up_n _ _ (by omega)).trans ((rp_up_n _ _ (by omega)).trans (hno 1 (by omega) (by omega)))))))) hq1n (px_r 3 (clp x) (fun _ => none))
  have a6 : va_up (va_up ad 2 q2) 1 q1 0 = a := (va_up_ne _ _ (by omega)).trans a1
  refine px_go hX ?_
  refine ⟨_, r6.at2 a6 ((rp_up_n _ _ (by omega)).trans (rp_up_s _ _ _)), Nat.le_of_ble_eq_true rfl, rfl, rfl, ?_⟩
  have R6 := r6.put2 a6 ((rp_up_n _ _ (by omega)).trans (rp_up_s _ _ _)) (mo_o (.ref q1) (.ref q2) .null (nI (clp y)))
  have hM0 := R6
  iterate 2 refine px_go hX ?_
  have loop : ∀ kk i (ad1 : Nat → Nat) (K1 : rp_K) (C1 : px_P), i + kk = clp x → Rp ad1 K1 C1 → MI ad K a (clp x) (clp y) ad1 K1 i → X (62, [(0, .ref a), (1, .int x), (2, .int y), (3, .int (nI (clp x))), (4, .int (nI i))], [], C1, 2 + 4 * i, 16 + clp x + 43 * i) := by
    intro kk
    induction kk with
    | zero =>
      intro i ad1 K1 C1 hi hR1 hM
      have hlt : i = clp x := hi
      obtain ⟨m0, m1, m2, m3, m4, m5, m6⟩ := hM
      iterate 3 refine px_go hX ?_
      refine ⟨fun (c1 : nI (clp x) ≤ nI i) => ?_, fun (c1 : ¬ nI (clp x) ≤ nI i) => absurd (nI_le (by omega) (by omega)) c1⟩
      iterate 2 refine px_go hX ?_
      refine ⟨by omega, by show 16 + clp x + 43 * i + 14 ≤ 4964; omega, fun q hqn hqb => ?_⟩
      have r1 := hR1.new (i := 3) (q := q) (m5 3 (by omega) (by omega) (by omega)) hqn (px_o 3 [.int 0, .null, .null, .null, .null, .null, .null, .null, .null, .int 0, .int 0, .int 0, .int 0, .int 0])
      have a1 : va_up ad1 3 q 0 = a := (va_up_ne _ _ (by omega)).trans m0
      iterate 3 refine px_go hX ?_
      refine ⟨_, _, r1.at2 a1 ((rp_up_n _ _ (by omega)).trans m1), rfl, ?_⟩
      refine px_go hX ?_
      refine ⟨8, 4758, _, by omega, by show 16 + clp x + 43 * i + 14 + 4758 ≤ 4964; omega, Nat.le_of_ble_eq_true rfl, ci_Sea r1 (va_up_self _ _ _) (rp_up_s _ _ _) ((rp_up_n _ _ (by omega)).trans (m5 4 (by omega) (by omega) (by omega))) ((rp_up_n _ _ (by omega)).trans (m5 5 (by omega) (by omega) (by omega))) ((rp_up_n _ _ (by omega)).trans (m5 6 (by omega) (by omega) (by omega))) ((rp_up_n _ _ (by omega)).trans (m5 7 (by omega) (by omega) (by omega))) ((rp_up_n _ _ (by omega)).trans (m5 8 (by omega) (by omega) (by omega))) ((rp_up_n _ _ (by omega)).trans (m5 9 (by omega) (by omega) (by omega))) ((rp_up_n _ _ (by omega)).trans (m5 10 (by omega) (by omega) (by omega))) ((rp_up_n _ _ (by omega)).trans (m5 11 (by omega) (by omega) (by omega))), ?_⟩
      rintro _ C2 ⟨rfl, ad2, K2, hR2, s3, s4, s5, s6, s7, s8, s9, s10, s11, so, sa⟩
      have e0 : ad2 0 = a := (so 0 (by omega)).2.trans a1
      have k0 : K2 0 = some (mo_o (.ref (ad1 1)) (.ref (ad1 2)) .null (nI (clp y))) := (so 0 (by omega)).1.trans ((rp_up_n _ _ (by omega)).trans m1)
      refine px_go hX ?_
      refine ⟨_, hR2.at2 e0 k0, Nat.le_of_ble_eq_true rfl, rfl, rfl, ?_⟩
      have R3 := hR2.put2 e0 k0 (mo_o (.ref (ad1 1)) (.ref (ad1 2)) (.ref q) (nI (clp y)))
      refine px_go hX ?_
      have adk : ∀ j, j ≠ 3 → j < 3 ∨ 12 ≤ j → ad2 j = ad1 j := fun j h3 hj => (so j hj).2.trans (va_up_ne _ _ h3)
      have kk2 : ∀ j, j ≠ 3 → j < 3 ∨ 12 ≤ j → K2 j = K1 j := fun j h3 hj => (so j hj).1.trans (rp_up_n _ _ h3)
      refine ⟨rfl, ad2, _, R3, ⟨⟨?_, ?_, ?_, ?_⟩, ⟨?_, ?_, ?_, ?_, ?_, ?_, ?_, ?_⟩, fun c hc => ?_, fun j hj => absurd hj (Nat.not_lt_zero j), fun j hj hj2 => ?_, hx1.1, hx1.2, hy1.1, hy1.2, Nat.zero_le _⟩, fun j hj => ⟨?_, ?_⟩, e0⟩
      · show _ = some (mo_o (.ref (ad2 1)) (.ref (ad2 2)) (.ref (ad2 3)) (nI (clp y)))
        rw [adk 1 (by omega) (by omega), adk 2 (by omega) (by omega), sa]
        exact rp_up_s _ _ _
      · refine (rp_up_n _ _ (by omega)).trans ((kk2 1 (by omega) (by omega)).trans (m2.trans ?_))
        congr 2
        funext b
        show (if b < i then some (ad1 (20 + 4 * b)) else none) = (if b < clp x then some (ad2 (20 + 4 * b)) else none)
        rw [hlt, adk (20 + 4 * b) (by omega) (by omega)]
      · refine (rp_up_n _ _ (by omega)).trans ((kk2 2 (by omega) (by omega)).trans (m3.trans ?_))
        congr 2
      · exact (rp_up_n _ _ (by omega)).trans s3
      · exact (rp_up_n _ _ (by omega)).trans s4
      · exact (rp_up_n _ _ (by omega)).trans s5
      · exact (rp_up_n _ _ (by omega)).trans s6
      · exact (rp_up_n _ _ (by omega)).trans s7
      · exact (rp_up_n _ _ (by omega)).trans s8
      · exact (rp_up_n _ _ (by omega)).trans s9
      · exact (rp_up_n _ _ (by omega)).trans s10
      · exact (rp_up_n _ _ (by omega)).trans s11
      · have hc : c < clp x := hc
        obtain ⟨b0, b1, b2, b3⟩ := m4 c (by omega)
        refine ⟨?_, ?_, ?_, ?_⟩
        · refine (rp_up_n _ _ (by omega)).trans ((kk2 _ (by omega) (by omega)).trans (b0.trans ?_))
          show some (ba_o ad1 c) = some (px_o 1 [.ref (ad2 (21 + 4 * c)), .ref (ad2 (22 + 4 * c)), .ref (ad2 (23 + 4 * c)), .int 0, .int 0, .int 0, .int 0])
          rw [adk (21 + 4 * c) (by omega) (by omega), adk (22 + 4 * c) (by omega) (by omega), adk (23 + 4 * c) (by omega) (by omega)]
          unfold ba_o
          rw [show 20 + 4 * c + 1 = 21 + 4 * c by omega, show 20 + 4 * c + 2 = 22 + 4 * c by omega, show 20 + 4 * c + 3 = 23 + 4 * c by omega]
        · rw [show 21 + 4 * c = 20 + 4 * c + 1 by omega]
          exact (rp_up_n _ _ (by omega)).trans ((kk2 _ (by omega) (by omega)).trans b1)
        · rw [show 22 + 4 * c = 20 + 4 * c + 2 by omega]
          exact (rp_up_n _ _ (by omega)).trans ((kk2 _ (by omega) (by omega)).trans b2)
        · rw [show 23 + 4 * c = 20 + 4 * c + 3 by omega]
          exact (rp_up_n _ _ (by omega)).trans ((kk2 _ (by omega) (by omega)).trans b3)
      · exact (rp_up_n _ _ (by omega)).trans ((kk2 _ (by omega) (by omega)).trans (m5 _ (by omega) (by omega) (by omega)))
      · exact (rp_up_n _ _ (by omega)).trans ((kk2 _ (by omega) (by omega)).trans (m6 j hj).1)
      · exact (adk j (by omega) (by omega)).trans (m6 j hj).2
    | succ kk ih =>
      intro i ad1 K1 C1 hi hR1 hM
      have hlt : i < clp x := by omega
      obtain ⟨m0, m1, m2, m3, m4, m5, m6⟩ := hM
      iterate 3 refine px_go hX ?_
      refine ⟨fun (c1 : nI (clp x) ≤ nI i) => absurd c1 (nI_ge hlt (by omega)), fun (c1 : ¬ nI (clp x) ≤ nI i) => ?_⟩
      iterate 2 refine px_go hX ?_
      refine ⟨_, _, hR1.at2 m0 m1, rfl, ?_⟩
      iterate 2 refine px_go hX ?_
      refine ⟨by omega, by show 16 + clp x + 43 * i + 7 ≤ 4964; omega, fun q hqn hqb => ?_⟩
      have r1 := hR1.new (i := 20 + 4 * i) (q := q) (m5 _ (by omega) (by omega) (by omega)) hqn (px_o 1 [.null, .null, .null, .int 0, .int 0, .int 0, .int 0])
      iterate 2 refine px_go hX ?_
      refine ⟨3, 36, _, by omega, by show 16 + clp x + 43 * i + 7 + 36 ≤ 4964; omega, Nat.le_of_ble_eq_true rfl, ci_Bay r1 (va_up_self _ _ _) (rp_up_s _ _ _) ((rp_up_n _ _ (by omega)).trans (m5 _ (by omega) (by omega) (by omega))) ((rp_up_n _ _ (by omega)).trans (m5 _ (by omega) (by omega) (by omega))) ((rp_up_n _ _ (by omega)).trans (m5 _ (by omega) (by omega) (by omega))), ?_⟩
      rintro _ C2 ⟨rfl, ad2, K2, hR2, b0, b1, b2, b3, so, sa⟩
      have adk : ∀ j, j < 20 + 4 * i ∨ 20 + 4 * i + 4 ≤ j → ad2 j = ad1 j := fun j hj => (so j hj).2.trans (va_up_ne _ _ (by omega))
      have kk2 : ∀ j, j < 20 + 4 * i ∨ 20 + 4 * i + 4 ≤ j → K2 j = K1 j := fun j hj => (so j hj).1.trans (rp_up_n _ _ (by omega))
      have e1 : ad2 1 = ad1 1 := adk 1 (by omega)
      have k1 := (kk2 1 (by omega)).trans m2
      refine px_go hX ?_
      refine ⟨_, _, _, _, hR2.at2 e1 k1, ⟨Nat.le_of_ble_eq_true rfl, Nat.le_of_ble_eq_true rfl⟩, vp_in_nI hlt (by omega), hR2.at2 sa b0, ?_⟩
      rw [nI_clamp (n := i) (by omega)]
      have R3 := hR2.put2 e1 k1 (px_r 3 (clp x) (va_up (fun b => if b < i then some (ad1 (20 + 4 * b)) else none) i (some q)))
      iterate 2 refine px_go hX ?_
      have hih := ih (i + 1) ad2 _ _ (by omega) R3 ⟨(adk 0 (by omega)).trans m0, ?_, ?_, ?_, fun b hb => ?_, fun j h3 h1 hj => ?_, fun j hj => ⟨?_, ?_⟩⟩
      · rw [show 2 + 4 * (i + 1) = 2 + 4 * i + 1 + 3 by omega, show 16 + clp x + 43 * (i + 1) = 16 + clp x + 43 * i + 7 + 36 by omega] at hih
        exact px_lw hw [(0, .ref a), (1, .int x), (2, .int y), (3, .int (nI (clp x))), (4, .int (nI (i + 1)))] hih ⟨rfl, rfl, rfl, rfl, congrArg (fun z => some (Value.int z)) (nI_succ i).symm, trivial⟩
      · refine (rp_up_n _ _ (by omega)).trans ((kk2 0 (by omega)).trans ?_)
        rw [m1, adk 1 (by omega), adk 2 (by omega)]
      · refine (rp_up_s _ _ _).trans ?_
        congr 2
        funext b
        by_cases hb : b = i
        · rw [hb, va_up_self, if_pos (Nat.lt_succ_self i), sa]
        · rw [va_up_ne _ _ hb]
          by_cases hl : b < i
          · rw [if_pos hl, if_pos (by omega), adk _ (by omega)]
          · rw [if_neg hl, if_neg (by omega)]
      · exact (rp_up_n _ _ (by omega)).trans ((kk2 2 (by omega)).trans m3)
      · by_cases hbi : b = i
        · subst hbi
          exact ⟨(rp_up_n _ _ (by omega)).trans b0, (rp_up_n _ _ (by omega)).trans b1, (rp_up_n _ _ (by omega)).trans b2, (rp_up_n _ _ (by omega)).trans b3⟩
        · obtain ⟨c0, c1, c2, c3⟩ := m4 b (by omega)
          refine ⟨?_, (rp_up_n _ _ (by omega)).trans ((kk2 _ (by omega)).trans c1), (rp_up_n _ _ (by omega)).trans ((kk2 _ (by omega)).trans c2), (rp_up_n _ _ (by omega)).trans ((kk2 _ (by omega)).trans c3)⟩
          refine (rp_up_n _ _ (by omega)).trans ((kk2 _ (by omega)).trans (c0.trans ?_))
          unfold ba_o
          rw [adk (20 + 4 * b + 1) (by omega), adk (20 + 4 * b + 2) (by omega), adk (20 + 4 * b + 3) (by omega)]
      · exact (rp_up_n _ _ (by omega)).trans ((kk2 _ (by omega)).trans (m5 j h3 h1 (by omega)))
      · exact (rp_up_n _ _ (by omega)).trans ((kk2 _ (by omega)).trans (m6 j hj).1)
      · exact (adk j (by omega)).trans (m6 j hj).2
  have e0 : va_up (va_up ad 2 q2) 1 q1 1 = q1 := va_up_self _ _ _
  have e2 : va_up (va_up ad 2 q2) 1 q1 2 = q2 := (va_up_ne _ _ (by omega)).trans (va_up_self _ _ _)
  have hl0 := loop (clp x - 0) 0 _ _ _ (by omega) hM0 ⟨a6, by rw [e0, e2]; exact rp_up_s _ _ _, (rp_up_n _ _ (by omega)).trans ((rp_up_s _ _ _).trans (by
      congr 2)), ((rp_up_n _ _ (by omega)).trans ((rp_up_n _ _ (by omega)).trans ((rp_up_n _ _ (by omega)).trans ((rp_up_n _ _ (by omega)).trans ((rp_up_n _ _ (by omega)).trans ((rp_up_n _ _ (by omega)).trans ((rp_up_n _ _ (by omega)).trans (rp_up_s _ _ _)))))))), fun b hb => absurd hb (Nat.not_lt_zero b), fun j h3 h1 _ => ((rp_up_n _ _ (by omega)).trans ((rp_up_n _ _ (by omega)).trans ((rp_up_n _ _ (by omega)).trans ((rp_up_n _ _ (by omega)).trans ((rp_up_n _ _ (by omega)).trans ((rp_up_n _ _ (by omega)).trans ((rp_up_n _ _ (by omega)).trans ((rp_up_n _ _ (by omega)).trans (hno j (by omega) h1))))))))), fun j hj => ⟨((rp_up_n _ _ (by omega)).trans ((rp_up_n _ _ (by omega)).trans ((rp_up_n _ _ (by omega)).trans ((rp_up_n _ _ (by omega)).trans ((rp_up_n _ _ (by omega)).trans ((rp_up_n _ _ (by omega)).trans ((rp_up_n _ _ (by omega)).trans ((rp_up_n _ _ (by omega)).trans rfl)))))))), (va_up_ne _ _ (by omega)).trans (va_up_ne _ _ (by omega))⟩⟩
  exact px_lw hw [(0, .ref a), (1, .int x), (2, .int y), (3, .int (nI (clp x))), (4, .int (nI 0))] hl0 ⟨rfl, rfl, rfl, rfl, rfl, trivial⟩
end UC
