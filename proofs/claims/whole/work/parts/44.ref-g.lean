/-! The reference: leads, before. -/
section SG
variable {B : Nat} {sc : Option (Nat × Nat × (Nat → Int32))} {d : Nat} {ad : Nat → Nat} {σ : ck_S} {ρ : rs_S} {K : rp_K} {C : px_P}
def ndb (σ : ck_S) (i j : Nat) : Bool := decide (j < cs_n σ) && !decide ((cs_bf σ j 4 >>> (nI i &&& 31)) &&& 1 = 0)
theorem ndb_iff (i j : Nat) : ndb σ i j = true ↔ cs_need σ i j := by
  unfold ndb cs_need
  simp
theorem ie_bit1 {m i : Nat} (hm : m < 65536) (hi : i < 16) : ((nI m >>> (nI i &&& 31)) &&& 1 = 1) ↔ m.testBit i = true := by
  rw [pk_shrN (by omega) _ i (ie_bits i hi), pk_andN (Nat.lt_of_le_of_lt (Nat.div_le_self _ _) (by omega)) 1 (by decide +kernel), Nat.testBit_eq_decide_div_mod_eq]
  have h2 : m / 2 ^ i % 2 ^ 1 < 2 := Nat.mod_lt _ (by decide)
  constructor
  · intro h
    have := (nI_eq (by omega) (by omega : 1 < 2 ^ 31)).mp h
    exact decide_eq_true (by omega)
  · intro h
    have := of_decide_eq_true h
    rw [show m / 2 ^ i % 2 ^ 1 = 1 by omega]
    rfl
theorem ie_sh1 {i : Nat} (hi : i < 16) : (1 : Int32) <<< (nI i &&& 31) = nI (2 ^ i) := by
  have h16 : 2 ^ i < 2 ^ 16 := Nat.pow_lt_pow_right (by decide) hi
  have := pk_shlN (n := 1) (nI i &&& 31) i (ie_bits i hi) (by omega)
  rw [Nat.one_mul] at this
  exact this
theorem fwk_t {nd : Nat → Nat → Bool} {m k : Nat} (h : nd (k / 16) (k % 16) = true ∧ (fwk nd m k).testBit (k / 16) = true) : fwk nd m (k + 1) = fwk nd m k ||| 2 ^ (k % 16) := if_pos h
theorem fwk_f {nd : Nat → Nat → Bool} {m k : Nat} (h : ¬ (nd (k / 16) (k % 16) = true ∧ (fwk nd m k).testBit (k / 16) = true)) : fwk nd m (k + 1) = fwk nd m k := if_neg h
theorem ie_or0 (m : Nat) : nI m ||| (0 : Int32) = nI m := by
  have := nI_or m 0
  rw [Nat.or_zero] at this
  exact this
theorem rr_leads (hR : Rp ad K C) (hr : Rl ad ρ K) (hs : Sim σ ρ) {x y : Nat} (hx : x < 16) (hy : y < 16) : px_W ps_Y ps_P B sc (d + 1) 65 [.ref (ad 100), .int (nI x), .int (nI y)] C 0 0 (px_bo ((itf (fun m => fwk (ndb σ) m 256) (2 ^ x) 16).testBit y = true) C) px_no := by
  obtain ⟨p, fs, fa, fw⟩ := ρ
  obtain rfl : p = σ.1 := hs.1.1
  have hA5 : C (ad 105) = some (px_z 256 (fa 5)) := hR.1 105 _ (hr.2.1 5 (by decide) (by decide) (by decide))
  have h2x : 2 ^ x < 65536 := show 2 ^ x < 2 ^ 16 from Nat.pow_lt_pow_right (by decide) hx
  have hlt0 : ∀ r, itf (fun m => fwk (ndb σ) m 256) (2 ^ x) r < 65536 := itf_lt (fun m h => fwk_lt h 256) h2x
  refine ⟨pm_Ref_leads, rfl, Nat.le_of_ble_eq_true rfl, fun X hw hX => ?_⟩
  have loop : ∀ kkr r, r + kkr = 16 → X (7, [(0, .ref (ad 100)), (1, .int (nI x)), (2, .int (nI y)), (3, .int (nI (itf (fun m => fwk (ndb σ) m 256) (2 ^ x) r))), (4, .int (nI r))], [], C, 0, 0) := by
    intro kkr
    induction kkr with
    | zero =>
      intro r hir
      have hltr : r = 16 := hir
      iterate 3 refine px_go hX ?_
      refine ⟨fun (c1 : (16 : Int32) ≤ nI r) => ?_, fun (c1 : ¬ (16 : Int32) ≤ nI r) => absurd (by rw [hltr]; exact Int32.le_refl _) c1⟩
      iterate 7 refine px_go hX ?_
      refine ⟨fun (c2 : ¬ ((nI (itf (fun m => fwk (ndb σ) m 256) (2 ^ x) r)) >>> ((nI y) &&& 31)) &&& ((1 : Int32)) = (1 : Int32)) => ?_, fun (c2 : ((nI (itf (fun m => fwk (ndb σ) m 256) (2 ^ x) r)) >>> ((nI y) &&& 31)) &&& ((1 : Int32)) = (1 : Int32)) => ?_⟩
      · iterate 2 refine px_go hX ?_
        rw [hltr] at c2
        exact ⟨Or.inl rfl, rfl, Or.inr ⟨fun q => c2 ((ie_bit1 (hlt0 16) hy).mpr q), rfl⟩⟩
      · iterate 3 refine px_go hX ?_
        rw [hltr] at c2
        exact ⟨Or.inr rfl, rfl, Or.inl ⟨(ie_bit1 (hlt0 16) hy).mp c2, rfl⟩⟩
    | succ kkr ihr =>
      intro r hir
      have hltr : r < 16 := by omega
      iterate 3 refine px_go hX ?_
      refine ⟨fun (c3 : (16 : Int32) ≤ nI r) => absurd c3 (nI_ge hltr (by omega : 16 < 2 ^ 31)), fun (c3 : ¬ (16 : Int32) ≤ nI r) => ?_⟩
      iterate 2 refine px_go hX ?_
      have loopi : ∀ kk i, i + kk = 256 → X (17, [(0, .ref (ad 100)), (1, .int (nI x)), (2, .int (nI y)), (3, .int (nI (fwk (ndb σ) (itf (fun m => fwk (ndb σ) m 256) (2 ^ x) r) i))), (4, .int (nI r)), (5, .int (nI i))], [], C, 0, 0) := by
        intro kk
        induction kk with
        | zero =>
          intro i hi
          have hlt : i = 256 := hi
          have hdiv : (nI i) / (16 : Int32) = nI (i / 16) := pk_div (d := 16) (by omega) (by omega) (by omega)
          have hrem : (nI i) - (nI i) / (16 : Int32) * (16 : Int32) = nI (i % 16) := pk_rem (d := 16) (by omega) (by omega) (by omega)
          have hml := fwk_lt (nd := ndb σ) (hlt0 r) i
          have hneed : ∀ i, i < 256 → (¬ fa 5 i = 0 ↔ cs_need σ (i / 16) (i % 16)) := fun i hi => by
            have h := hs.2.2.1 (i / 16) (i % 16) (by omega) (by omega)
            rw [show 16 * (i / 16) + i % 16 = i by omega] at h
            rcases h with ⟨h1, h2⟩ | ⟨h1, h2⟩
            · exact ⟨fun _ => h1, fun _ w => absurd (h2.symm.trans w) (by decide)⟩
            · exact ⟨fun w => absurd h2 w, fun w => absurd w h1⟩
          iterate 3 refine px_go hX ?_
          refine ⟨fun (c4 : (256 : Int32) ≤ nI i) => ?_, fun (c4 : ¬ (256 : Int32) ≤ nI i) => absurd (by rw [hlt]; exact Int32.le_refl _) c4⟩
          iterate 2 refine px_go hX ?_
          exact px_lw hw [(0, .ref (ad 100)), (1, .int (nI x)), (2, .int (nI y)), (3, .int (nI (itf (fun m => fwk (ndb σ) m 256) (2 ^ x) (r + 1)))), (4, .int (nI (r + 1)))] (ihr (r + 1) (by omega)) ⟨rfl, rfl, rfl, (congrArg (fun z => some (Value.int z)) (by rw [hlt]; rfl)), (congrArg (fun z => some (Value.int z)) (nI_succ _).symm), trivial⟩
        | succ kk ih =>
          intro i hi
          have hlt : i < 256 := by omega
          have hdiv : (nI i) / (16 : Int32) = nI (i / 16) := pk_div (d := 16) (by omega) (by omega) (by omega)
          have hrem : (nI i) - (nI i) / (16 : Int32) * (16 : Int32) = nI (i % 16) := pk_rem (d := 16) (by omega) (by omega) (by omega)
          have hml := fwk_lt (nd := ndb σ) (hlt0 r) i
          have hneed : ∀ i, i < 256 → (¬ fa 5 i = 0 ↔ cs_need σ (i / 16) (i % 16)) := fun i hi => by
            have h := hs.2.2.1 (i / 16) (i % 16) (by omega) (by omega)
            rw [show 16 * (i / 16) + i % 16 = i by omega] at h
            rcases h with ⟨h1, h2⟩ | ⟨h1, h2⟩
            · exact ⟨fun _ => h1, fun _ w => absurd (h2.symm.trans w) (by decide)⟩
            · exact ⟨fun w => absurd h2 w, fun w => absurd w h1⟩
          iterate 3 refine px_go hX ?_
          refine ⟨fun (c5 : (256 : Int32) ≤ nI i) => absurd c5 (nI_ge hlt (by omega : 256 < 2 ^ 31)), fun (c5 : ¬ (256 : Int32) ≤ nI i) => ?_⟩
          iterate 3 refine px_go hX ?_
          refine ⟨_, _, (hR.1 100 _ hr.1), rfl, ?_⟩
          iterate 2 refine px_go hX ?_
          refine ⟨_, _, hA5, (vp_in_nI hlt (by omega)), ?_⟩
          rw [nI_clamp (by omega)]
          refine px_go hX ?_
          refine ⟨fun (c6 : fa 5 i = 0) => ?_, fun (c6 : ¬ fa 5 i = 0) => ?_⟩
          · iterate 5 refine px_go hX ?_
            exact px_lw hw [(0, .ref (ad 100)), (1, .int (nI x)), (2, .int (nI y)), (3, .int (nI (fwk (ndb σ) (itf (fun m => fwk (ndb σ) m 256) (2 ^ x) r) (i + 1)))), (4, .int (nI r)), (5, .int (nI (i + 1)))] (ih (i + 1) (by omega)) ⟨rfl, rfl, rfl, (congrArg (fun z => some (Value.int z)) (by rw [fwk_f (fun w => (hneed i hlt).mpr ((ndb_iff _ _).mp w.1) c6)]; exact ie_or0 _)), rfl, (congrArg (fun z => some (Value.int z)) (nI_succ _).symm), trivial⟩
          · have hbit : (nI (fwk (ndb σ) (itf (fun m => fwk (ndb σ) m 256) (2 ^ x) r) i) >>> (((nI i) / (16 : Int32)) &&& 31)) &&& 1 = 1 ↔ (fwk (ndb σ) (itf (fun m => fwk (ndb σ) m 256) (2 ^ x) r) i).testBit (i / 16) = true := by rw [hdiv]; exact ie_bit1 hml (by omega)
            iterate 4 refine px_go hX ?_
            refine ⟨by decide +kernel, ?_⟩
            iterate 5 refine px_go hX ?_
            refine ⟨fun (c7 : ¬ ((nI (fwk (ndb σ) (itf (fun m => fwk (ndb σ) m 256) (2 ^ x) r) i)) >>> (((nI i) / ((16 : Int32))) &&& 31)) &&& ((1 : Int32)) = (1 : Int32)) => ?_, fun (c7 : ((nI (fwk (ndb σ) (itf (fun m => fwk (ndb σ) m 256) (2 ^ x) r) i)) >>> (((nI i) / ((16 : Int32))) &&& 31)) &&& ((1 : Int32)) = (1 : Int32)) => ?_⟩
            · iterate 5 refine px_go hX ?_
              exact px_lw hw [(0, .ref (ad 100)), (1, .int (nI x)), (2, .int (nI y)), (3, .int (nI (fwk (ndb σ) (itf (fun m => fwk (ndb σ) m 256) (2 ^ x) r) (i + 1)))), (4, .int (nI r)), (5, .int (nI (i + 1)))] (ih (i + 1) (by omega)) ⟨rfl, rfl, rfl, (congrArg (fun z => some (Value.int z)) (by rw [fwk_f (fun w => c7 (hbit.mpr w.2))]; exact ie_or0 _)), rfl, (congrArg (fun z => some (Value.int z)) (nI_succ _).symm), trivial⟩
            · iterate 4 refine px_go hX ?_
              refine ⟨by decide +kernel, ?_⟩
              iterate 6 refine px_go hX ?_
              exact px_lw hw [(0, .ref (ad 100)), (1, .int (nI x)), (2, .int (nI y)), (3, .int (nI (fwk (ndb σ) (itf (fun m => fwk (ndb σ) m 256) (2 ^ x) r) (i + 1)))), (4, .int (nI r)), (5, .int (nI (i + 1)))] (ih (i + 1) (by omega)) ⟨rfl, rfl, rfl, (congrArg (fun z => some (Value.int z)) (by
                          rw [fwk_t ⟨(ndb_iff _ _).mpr ((hneed i hlt).mp c6), hbit.mp c7⟩, ← nI_or, ← ie_sh1 (by omega : i % 16 < 16), ← hrem]
                          rfl)), rfl, (congrArg (fun z => some (Value.int z)) (nI_succ _).symm), trivial⟩
      exact px_lw hw [(0, .ref (ad 100)), (1, .int (nI x)), (2, .int (nI y)), (3, .int (nI (fwk (ndb σ) (itf (fun m => fwk (ndb σ) m 256) (2 ^ x) r) 0))), (4, .int (nI r)), (5, .int (nI 0))] (loopi (256 - 0) 0 (by omega)) ⟨rfl, rfl, rfl, rfl, rfl, rfl, trivial⟩
  iterate 6 refine px_go hX ?_
  exact px_lw hw [(0, .ref (ad 100)), (1, .int (nI x)), (2, .int (nI y)), (3, .int (nI (itf (fun m => fwk (ndb σ) m 256) (2 ^ x) 0))), (4, .int (nI 0))] (loop (16 - 0) 0 (by omega)) ⟨rfl, rfl, rfl, (congrArg (fun z => some (Value.int z)) (ie_sh1 hx)), rfl, trivial⟩
theorem lead_iff (hn : cs_n σ ≤ 16) (her : cs_er σ) {x y : Nat} (hx : x < cs_n σ) (hy : y < cs_n σ) : (itf (fun m => fwk (ndb σ) m 256) (2 ^ y) 16).testBit x = true ↔ y = x ∨ ¬ ((cs_kn σ (cs_bf σ x 4) 16 >>> (nI y &&& 31)) &&& 1) = 0 := by
  have hm : ∀ j, j < cs_n σ → cs_bf σ j 4 = nI (cs_bf σ j 4).toNatClampNeg ∧ (cs_bf σ j 4).toNatClampNeg < 65536 ∧ ∀ i, ((cs_bf σ j 4).toNatClampNeg).testBit i = true → i < cs_n σ := fun j hj => by
    obtain ⟨m, h1, h2, h3⟩ := her j hj
    rw [h2, nI_clamp (by omega)]
    refine ⟨rfl, h1, fun i hi => ?_⟩
    rcases Nat.lt_or_ge i (cs_n σ) with h | h
    · exact h
    · rcases Nat.lt_or_ge i 16 with h4 | h4
      · rw [h3 i h h4] at hi
        cases hi
      · rw [bits_hi h1 h4] at hi
        cases hi
  let er : Nat → Nat := fun j => if j < cs_n σ then (cs_bf σ j 4).toNatClampNeg else 0
  have e0 : ∀ j, j < cs_n σ → er j = (cs_bf σ j 4).toNatClampNeg := fun j hj => if_pos hj
  have e1 : ∀ k, er k < 65536 := fun k => by
    show (if k < cs_n σ then (cs_bf σ k 4).toNatClampNeg else 0) < 65536
    split
    · exact (hm k (by assumption)).2.1
    · omega
  have e2 : ∀ j i, (er j).testBit i = true → i < cs_n σ := fun j i h => by
    by_cases hj : j < cs_n σ
    · rw [e0 j hj] at h
      exact (hm j hj).2.2 i h
    · rw [show er j = 0 from if_neg hj, Nat.zero_testBit] at h
      cases h
  have e3 : ∀ i j, i < 16 → j < 16 → (ndb σ i j = true ↔ j < cs_n σ ∧ (er j).testBit i = true) := fun i j hi _ => by
    rw [ndb_iff]
    unfold cs_need
    constructor
    · rintro ⟨h1, h2⟩
      refine ⟨h1, ?_⟩
      rw [(hm j h1).1, ie_bit (hm j h1).2.1 hi, ← e0 j h1] at h2
      simpa using h2
    · rintro ⟨h1, h2⟩
      refine ⟨h1, ?_⟩
      rw [(hm j h1).1, ie_bit (hm j h1).2.1 hi, ← e0 j h1, h2]
      decide
  rw [close_iff hn e1 e3 e2 hx hy]
  have k1 : ∀ i, i ≤ cs_n σ → ∀ m, m < 65536 → cs_k1 σ (nI m) i = nI (bwk er m i) := by
    intro i
    induction i with
    | zero => intro _ m _; rfl
    | succ i ih =>
      intro hi m hm2
      have q := ih (by omega) m hm2
      have hl := bwk_lt e1 hm2 i
      show (if (cs_k1 σ (nI m) i >>> (nI i &&& 31)) &&& 1 = 0 then cs_k1 σ (nI m) i else cs_k1 σ (nI m) i ||| cs_bf σ i 4) = nI (if (bwk er m i).testBit i = true then bwk er m i ||| er i else bwk er m i)
      rw [q]
      by_cases h : (bwk er m i).testBit i = true
      · rw [if_pos h, if_neg (fun w => by rw [(ie_bit hl (by omega)).mp w] at h; cases h), (hm i (by omega)).1, nI_or, e0 i (by omega)]
      · rw [if_neg h, if_pos ((ie_bit hl (by omega)).mpr (by simpa using h))]
  have kn : ∀ r, cs_kn σ (nI (er x)) r = nI (itf (fun m => bwk er m (cs_n σ)) (er x) r) := by
    intro r
    induction r with
    | zero => rfl
    | succ r ih =>
      show cs_k1 σ (cs_kn σ (nI (er x)) r) (cs_n σ) = _
      rw [ih, k1 (cs_n σ) (Nat.le_refl _) _ (itf_lt (fun m h => bwk_lt e1 h _) (e1 x) r)]
      rfl
  have hb : cs_bf σ x 4 = nI (er x) := by rw [e0 x hx]; exact (hm x hx).1
  rw [hb, kn 16, ie_bit (itf_lt (fun m h => bwk_lt e1 h _) (e1 x) 16) (by omega)]
  simp
end SG
