/-! The reference's cells: 100 the object, 100 + q its arrays. -/
/-- bays, tiers, boxes; thrown, went, worked, ways, mineCount; its arrays of ints; its ways -/
abbrev rs_S : Type := (Nat × Nat × Nat) × (Nat → Int32) × (Nat → Nat → Int32) × (Nat → Int64)
abbrev rs_nb (ρ : rs_S) : Nat := ρ.1.1
abbrev rs_ti (ρ : rs_S) : Nat := ρ.1.2.1
abbrev rs_n (ρ : rs_S) : Nat := ρ.1.2.2
abbrev rs_sc (ρ : rs_S) : Nat → Int32 := ρ.2.1
abbrev rs_a (ρ : rs_S) : Nat → Nat → Int32 := ρ.2.2.1
abbrev rs_w (ρ : rs_S) : Nat → Int64 := ρ.2.2.2
def rk (q : Nat) : Nat := match q with | 5 => 2 | 7 => 2 | _ => 0
def rz (q : Nat) : Nat := match q with | 1 => 16 | 2 => 16 | 3 => 16 | 4 => 16 | 5 => 256 | 6 => 4 | 7 => 4 | 8 => 4 | 9 => 4 | 10 => 160 | 11 => 160 | 12 => 160 | 14 => 2048 | 15 => 2048 | 16 => 4096 | _ => 4
abbrev rr_o (ad : Nat → Nat) (p : Nat × Nat × Nat) (f : Nat → Int32) : px_E := px_o 4 [.int (f 0), .int (nI p.1), .int (nI p.2.1), .int (nI p.2.2), .ref (ad 101), .ref (ad 102), .ref (ad 103), .ref (ad 104), .ref (ad 105), .ref (ad 106), .int (f 1), .int (f 2), .ref (ad 107), .ref (ad 108), .ref (ad 109), .ref (ad 110), .ref (ad 111), .ref (ad 112), .ref (ad 113), .ref (ad 114), .ref (ad 115), .int (f 3), .ref (ad 116), .ref (ad 117), .int (f 4)]
def Rl (ad : Nat → Nat) (ρ : rs_S) (K : rp_K) : Prop := K 100 = some (rr_o ad ρ.1 (rs_sc ρ)) ∧ (∀ q, 1 ≤ q → q ≤ 17 → q ≠ 13 → K (100 + q) = some (.inl (rk q, rz q, rs_a ρ q))) ∧ K 113 = some (px_j 2048 (rs_w ρ))
def rs_sO (ρ : rs_S) (n : Nat) (f : Nat → Int32) : rs_S := ((ρ.1.1, ρ.1.2.1, n), f, ρ.2.2)
def rs_sA (ρ : rs_S) (q : Nat) (g : Nat → Int32) : rs_S := (ρ.1, ρ.2.1, va_up (rs_a ρ) q g, ρ.2.2.2)
def rs_sW (ρ : rs_S) (g : Nat → Int64) : rs_S := (ρ.1, ρ.2.1, ρ.2.2.1, g)
theorem Rl.sO {ad : Nat → Nat} {ρ : rs_S} {K : rp_K} (h : Rl ad ρ K) (n : Nat) (f : Nat → Int32) : Rl ad (rs_sO ρ n f) (rp_up K 100 (rr_o ad (ρ.1.1, ρ.1.2.1, n) f)) :=
  ⟨rp_up_s _ _ _, fun q h1 h2 h3 => by rw [rp_up_n _ _ (by omega)]; exact h.2.1 q h1 h2 h3, by rw [rp_up_n _ _ (by omega)]; exact h.2.2⟩
theorem Rl.sA {ad : Nat → Nat} {ρ : rs_S} {K : rp_K} (h : Rl ad ρ K) {q : Nat} (h1 : 1 ≤ q) (h2 : q ≤ 17) (h3 : q ≠ 13) (g : Nat → Int32) : Rl ad (rs_sA ρ q g) (rp_up K (100 + q) (.inl (rk q, rz q, g))) := by
  refine ⟨by rw [rp_up_n _ _ (by omega)]; exact h.1, fun p p1 p2 p3 => ?_, by rw [rp_up_n _ _ (by omega)]; exact h.2.2⟩
  show _ = some (Sum.inl (rk p, rz p, va_up (rs_a ρ) q g p))
  by_cases hp : p = q
  · subst hp
    rw [rp_up_s, va_up_self]
  · rw [rp_up_n _ _ (by omega), va_up_ne _ _ hp]
    exact h.2.1 p p1 p2 p3
theorem Rl.sW {ad : Nat → Nat} {ρ : rs_S} {K : rp_K} (h : Rl ad ρ K) (g : Nat → Int64) : Rl ad (rs_sW ρ g) (rp_up K 113 (px_j 2048 g)) :=
  ⟨by rw [rp_up_n _ _ (by omega)]; exact h.1, fun q h1 h2 h3 => by rw [rp_up_n _ _ (by omega)]; exact h.2.1 q h1 h2 h3, rp_up_s _ _ _⟩
/-- i is to go out before j -/
def cs_need (σ : ck_S) (i j : Nat) : Prop := j < cs_n σ ∧ ¬ ((cs_bf σ j 4 >>> (nI i &&& 31)) &&& 1) = 0
/-- the reference says the same -/
def Sim (σ : ck_S) (ρ : rs_S) : Prop :=
  (ρ.1 = σ.1 ∧ rs_sc ρ 1 = cs_lg σ ∧ rs_sc ρ 2 = cs_mw σ) ∧
  (∀ j, j < cs_n σ → rs_a ρ 1 j = cs_bf σ j 0 ∧ rs_a ρ 2 j = cs_bf σ j 1 ∧ rs_a ρ 3 j = cs_bf σ j 2 ∧ rs_a ρ 4 j = cs_bf σ j 3) ∧
  (∀ i j, i < 16 → j < 16 → (cs_need σ i j ∧ rs_a ρ 5 (16 * i + j) = 1) ∨ (¬ cs_need σ i j ∧ rs_a ρ 5 (16 * i + j) = 0)) ∧
  (∀ b, b < cs_nb σ → rs_a ρ 6 b = cs_yf σ b 3 ∧ rs_a ρ 7 b = cs_yf σ b 0 ∧ (¬ cs_yf σ b 0 = 0 → rs_a ρ 8 b = cs_yf σ b 1 ∧ rs_a ρ 9 b = cs_yf σ b 2 ∧ ∀ i, i < 12 → nI i < cs_yf σ b 1 → rs_a ρ 10 (40 * b + i) = cs_ya σ b 0 i ∧ rs_a ρ 11 (40 * b + i) = cs_ya σ b 1 i ∧ rs_a ρ 12 (40 * b + i) = cs_ya σ b 2 i) ∧ ∃ m d : Nat, rs_a ρ 8 b = nI m ∧ rs_a ρ 9 b = nI d ∧ d ≤ m ∧ m ≤ 12)
/-- the picture behind a call of the reference -/
def Cr (ad : Nat → Nat) (ρ : rs_S) (K : rp_K) (C : px_P) : Prop := ∃ K', Rp ad K' C ∧ Rl ad ρ K' ∧ ∀ i, i < 100 ∨ 118 ≤ i → K' i = K i
/-- a call of the reference: it says what r says -/
def px_oR (ad : Nat → Nat) (K : rp_K) (r : cs_R) : Option Value → px_P → Prop := fun v C' => ∃ ρ' y, Cr ad ρ' K C' ∧ Sim r.2.2 ρ' ∧ rs_sc ρ' 0 = nI r.1 ∧ v = some (.int y) ∧ (r.1 = 0 → y = r.2.1)
def rs_th (ρ : rs_S) (t : Int32) : rs_S := rs_sO ρ (rs_n ρ) (fun q => match q with | 0 => t | 1 => rs_sc ρ 1 | 2 => rs_sc ρ 2 | 3 => rs_sc ρ 3 | _ => rs_sc ρ 4)
theorem Sim.th {σ : ck_S} {ρ : rs_S} (h : Sim σ ρ) (t : Int32) : Sim σ (rs_th ρ t) := h
theorem Cr.of {ad : Nat → Nat} {ρ : rs_S} {K : rp_K} {C : px_P} (hR : Rp ad K C) (hr : Rl ad ρ K) : Cr ad ρ K C := ⟨K, hR, hr, fun _ _ => rfl⟩
