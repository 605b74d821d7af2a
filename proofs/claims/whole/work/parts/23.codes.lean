/-! The search's cells; its codes: four bits for each box. -/
def ck_sz (k : Nat) : Nat := match k with | 0 => 4 | 1 => 4 | 2 => 3 | 3 => 3 | _ => 1240
theorem Cl.sSi {ad : Nat → Nat} {σ : ck_S} {K : rp_K} (h : Cl ad σ K) (f : Nat → Int32) : Cl ad (cs_sSi σ f) (rp_up K 3 (px_o 3 [.int (nI (cs_ti σ)), .ref (ad 4), .ref (ad 5), .ref (ad 6), .ref (ad 7), .ref (ad 8), .ref (ad 9), .ref (ad 10), .ref (ad 11), .int (f 0), .int (f 1), .int (f 2), .int (f 3), .int (f 4)])) := by
  obtain ⟨⟨a0, a1, a2, a3⟩, ⟨b4, b5, b6, b7, b8, b9, b10, b11⟩, hy, hx, hn, q1, q2, q3, q4, q5⟩ := h
  refine ⟨⟨?_, ?_, ?_, rp_up_s _ _ _⟩, ⟨?_, ?_, ?_, ?_, ?_, ?_, ?_, ?_⟩, fun c hc => ?_, fun j hj => ?_, fun j hj hj2 => ?_, q1, q2, q3, q4, q5⟩
  iterate 11 (first | (rw [rp_up_n K _ (by omega)]; assumption))
  · have hc : c < cs_nb σ := hc
    obtain ⟨y0, y1, y2, y3⟩ := hy c hc
    exact ⟨by rw [rp_up_n K _ (by omega)]; exact y0, by rw [rp_up_n K _ (by omega)]; exact y1, by rw [rp_up_n K _ (by omega)]; exact y2, by rw [rp_up_n K _ (by omega)]; exact y3⟩
  · have hj : j < cs_n σ := hj
    rw [rp_up_n K _ (by omega)]
    exact hx j hj
  · rw [rp_up_n K _ (by omega)]
    exact hn j hj hj2
theorem Cl.sSn {ad : Nat → Nat} {σ : ck_S} {K : rp_K} (h : Cl ad σ K) (g : Nat → Int64) : Cl ad (cs_sSn σ g) (rp_up K 11 (px_j 1024 g)) := by
  obtain ⟨⟨a0, a1, a2, a3⟩, ⟨b4, b5, b6, b7, b8, b9, b10, b11⟩, hy, hx, hn, q1, q2, q3, q4, q5⟩ := h
  refine ⟨⟨?_, ?_, ?_, ?_⟩, ⟨?_, ?_, ?_, ?_, ?_, ?_, ?_, rp_up_s _ _ _⟩, fun c hc => ?_, fun j hj => ?_, fun j hj hj2 => ?_, q1, q2, q3, q4, q5⟩
  iterate 11 (first | (rw [rp_up_n K _ (by omega)]; assumption))
  · have hc : c < cs_nb σ := hc
    obtain ⟨y0, y1, y2, y3⟩ := hy c hc
    exact ⟨by rw [rp_up_n K _ (by omega)]; exact y0, by rw [rp_up_n K _ (by omega)]; exact y1, by rw [rp_up_n K _ (by omega)]; exact y2, by rw [rp_up_n K _ (by omega)]; exact y3⟩
  · have hj : j < cs_n σ := hj
    rw [rp_up_n K _ (by omega)]
    exact hx j hj
  · rw [rp_up_n K _ (by omega)]
    exact hn j hj hj2
theorem Cl.sSa {ad : Nat → Nat} {σ : ck_S} {K : rp_K} (h : Cl ad σ K) {k : Nat} (hk : k < 7) (g : Nat → Int32) : Cl ad (cs_sSa σ k g) (rp_up K (4 + k) (px_i (ck_sz k) g)) := by
  obtain ⟨⟨a0, a1, a2, a3⟩, ⟨b4, b5, b6, b7, b8, b9, b10, b11⟩, hy, hx, hn, q1, q2, q3, q4, q5⟩ := h
  have key : ∀ m, K (4 + m) = some (px_i (ck_sz m) (cs_sa σ m)) → rp_up K (4 + k) (px_i (ck_sz k) g) (4 + m) = some (px_i (ck_sz m) (va_up (cs_sa σ) k g m)) := by
    intro m hm
    by_cases h : m = k
    · subst h
      rw [rp_up_s, va_up_self]
    · rw [rp_up_n K _ (by omega), va_up_ne _ _ h]
      exact hm
  refine ⟨⟨?_, ?_, ?_, ?_⟩, ⟨key 0 b4, key 1 b5, key 2 b6, key 3 b7, key 4 b8, key 5 b9, key 6 b10, ?_⟩, fun c hc => ?_, fun j hj => ?_, fun j hj hj2 => ?_, q1, q2, q3, q4, q5⟩
  iterate 5 (first | (rw [rp_up_n K _ (by omega)]; assumption))
  · have hc : c < cs_nb σ := hc
    obtain ⟨y0, y1, y2, y3⟩ := hy c hc
    exact ⟨by rw [rp_up_n K _ (by omega)]; exact y0, by rw [rp_up_n K _ (by omega)]; exact y1, by rw [rp_up_n K _ (by omega)]; exact y2, by rw [rp_up_n K _ (by omega)]; exact y3⟩
  · have hj : j < cs_n σ := hj
    rw [rp_up_n K _ (by omega)]
    exact hx j hj
  · rw [rp_up_n K _ (by omega)]
    exact hn j hj hj2
/-- the place of box k in a code; the code with another place there -/
def pl (c k : Nat) : Nat := c / 2 ^ (4 * k) % 2 ^ 4
def wp (c k p : Nat) : Nat := (c &&& (65535 - 15 * 2 ^ (4 * k))) ||| (p * 2 ^ (4 * k))
theorem pl_lt (c k : Nat) : pl c k < 16 := Nat.mod_lt _ (by decide)
theorem ie_pl {c k : Nat} (hc : c < 65536) (hk : k < 4) : (nI c >>> ((nI k * 4) &&& 31)) &&& 15 = nI (pl c k) := by
  have h31 : c < 2 ^ 31 := by omega
  have key : ∀ s : Int32, (s.toBitVec.smod 32).toNat = 4 * k → (nI c >>> s) &&& 15 = nI (pl c k) := fun s hs => by
    rw [pk_shrN h31 s (4 * k) hs, pk_andN (Nat.lt_of_le_of_lt (Nat.div_le_self _ _) (by omega)) 4 (by decide +kernel)]
    rfl
  match k, hk with
  | 0, _ => exact key _ (by decide +kernel)
  | 1, _ => exact key _ (by decide +kernel)
  | 2, _ => exact key _ (by decide +kernel)
  | 3, _ => exact key _ (by decide +kernel)
theorem nI_or (a b : Nat) : nI a ||| nI b = nI (a ||| b) := Int32.toBitVec_inj.mp (BitVec.eq_of_toNat_eq (by
  show (BitVec.ofNat 32 a ||| BitVec.ofNat 32 b).toNat = (BitVec.ofNat 32 (a ||| b)).toNat
  rw [BitVec.toNat_or, BitVec.toNat_ofNat, BitVec.toNat_ofNat, BitVec.toNat_ofNat, Nat.or_mod_two_pow]))
theorem nI_andc {c : Nat} (hc : c < 65536) (m : Int32) (M : Nat) (hm : m.toBitVec.toNat % 2 ^ 16 = M) : nI c &&& m = nI (c &&& M) := Int32.toBitVec_inj.mp (BitVec.eq_of_toNat_eq (by
  show (BitVec.ofNat 32 c &&& m.toBitVec).toNat = (BitVec.ofNat 32 (c &&& M)).toNat
  have h1 : c % 2 ^ 16 = c := Nat.mod_eq_of_lt hc
  have h2 : c &&& m.toBitVec.toNat = c &&& M := by
    rw [← hm]
    apply Nat.eq_of_testBit_eq
    intro i
    rw [Nat.testBit_and, Nat.testBit_and, Nat.testBit_mod_two_pow]
    by_cases hi : i < 16
    · simp [hi]
    · have : c.testBit i = false := Nat.testBit_lt_two_pow (Nat.lt_of_lt_of_le hc (show 2 ^ 16 ≤ 2 ^ i from Nat.pow_le_pow_right (by decide) (by omega)))
      simp [this]
  rw [BitVec.toNat_and, BitVec.toNat_ofNat, BitVec.toNat_ofNat, Nat.mod_eq_of_lt (by omega : c < 2 ^ 32), h2, Nat.mod_eq_of_lt (Nat.lt_of_le_of_lt Nat.and_le_left (by omega))]))
theorem ie_wp {c k p : Nat} (hc : c < 65536) (hk : k < 4) (hp : p < 16) : (nI c &&& ((15 <<< ((nI k * 4) &&& 31)) ^^^ (-1))) ||| (nI p <<< ((nI k * 4) &&& 31)) = nI (wp c k p) := by
  have key : ∀ s m : Int32, (s.toBitVec.smod 32).toNat = 4 * k → m.toBitVec.toNat % 2 ^ 16 = 65535 - 15 * 2 ^ (4 * k) → p * 2 ^ (4 * k) < 2 ^ 32 → (nI c &&& m) ||| (nI p <<< s) = nI (wp c k p) := fun s m hs hm hlt => by
    rw [nI_andc hc m _ hm, pk_shlN s (4 * k) hs hlt, nI_or]
    rfl
  match k, hk with
  | 0, _ => exact key _ _ (by decide +kernel) (by decide +kernel) (by omega)
  | 1, _ => exact key _ _ (by decide +kernel) (by decide +kernel) (by omega)
  | 2, _ => exact key _ _ (by decide +kernel) (by decide +kernel) (by omega)
  | 3, _ => exact key _ _ (by decide +kernel) (by decide +kernel) (by omega)
theorem ie_st : ∀ k, k < 4 → ∀ f, f < 7 → ∀ t, t < 5 → (nI k <<< ((6 : Int32) &&& 31)) ||| (nI f <<< ((3 : Int32) &&& 31)) ||| nI t = nI (64 * k + 8 * f + t) := by decide +kernel
theorem wp_lt {c k p : Nat} (hc : c < 65536) (hk : k < 4) (hp : p < 16) : wp c k p < 65536 := by
  unfold wp
  have h1 : c &&& (65535 - 15 * 2 ^ (4 * k)) < 2 ^ 16 := Nat.lt_of_le_of_lt Nat.and_le_left hc
  have h2 : p * 2 ^ (4 * k) < 2 ^ 16 := by
    match k, hk with
    | 0, _ => omega
    | 1, _ => omega
    | 2, _ => omega
    | 3, _ => omega
  exact Nat.or_lt_two_pow h1 h2
