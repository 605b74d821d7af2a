/-! The two closures of needs agree. -/
theorem pn_ct_sub {p q : Nat → Bool} : ∀ {n : Nat}, (∀ i, i < n → p i = true → q i = true) → pn_ct p n ≤ pn_ct q n
  | 0, _ => Nat.le_refl 0
  | n + 1, h => by
    have ih := pn_ct_sub (p := p) (q := q) (n := n) (fun i hi => h i (by omega))
    cases hp : p n with
    | false =>
      rw [pn_ct_f hp]
      exact Nat.le_trans ih (Nat.le_add_right _ _)
    | true =>
      rw [pn_ct_t hp, pn_ct_t (h n (by omega) hp)]
      exact Nat.succ_le_succ ih
theorem pn_ct_str {p q : Nat → Bool} : ∀ {n : Nat}, (∀ i, i < n → p i = true → q i = true) → (∃ i, i < n ∧ p i = false ∧ q i = true) → pn_ct p n < pn_ct q n
  | 0, _, ⟨i, hi, _⟩ => absurd hi (Nat.not_lt_zero i)
  | n + 1, h, ⟨i, hi, hp, hq⟩ => by
    have hs := pn_ct_sub (p := p) (q := q) (n := n) (fun i hi => h i (by omega))
    rcases Nat.lt_succ_iff_lt_or_eq.mp hi with h2 | h2
    · have ih := pn_ct_str (p := p) (q := q) (n := n) (fun i hi => h i (by omega)) ⟨i, h2, hp, hq⟩
      cases hpn : p n with
      | false =>
        rw [pn_ct_f hpn]
        exact Nat.lt_of_lt_of_le ih (Nat.le_add_right _ _)
      | true =>
        rw [pn_ct_t hpn, pn_ct_t (h n (by omega) hpn)]
        exact Nat.succ_lt_succ ih
    · subst h2
      rw [pn_ct_f hp, pn_ct_t hq]
      exact Nat.lt_succ_of_le hs
theorem bits_hi {m i : Nat} (hm : m < 65536) (hi : 16 ≤ i) : m.testBit i = false := Nat.testBit_lt_two_pow (Nat.lt_of_lt_of_le hm (show 2 ^ 16 ≤ 2 ^ i from Nat.pow_le_pow_right (by decide) hi))
/-- rounds of a growing step come to rest -/
def itf (f : Nat → Nat) (m : Nat) : Nat → Nat
  | 0 => m
  | r + 1 => f (itf f m r)
theorem itf_lt {f : Nat → Nat} (hb : ∀ m, m < 65536 → f m < 65536) {m : Nat} (hm : m < 65536) : ∀ r, itf f m r < 65536
  | 0 => hm
  | r + 1 => hb _ (itf_lt hb hm r)
theorem itf_fix {f : Nat → Nat} (ha : ∀ m i, m < 65536 → m.testBit i = true → (f m).testBit i = true) (hb : ∀ m, m < 65536 → f m < 65536) {m : Nat} (hm : m < 65536) : f (itf f m 16) = itf f m 16 := by
  have stay : ∀ s, f (itf f m s) = itf f m s → ∀ k, itf f m (s + k) = itf f m s := fun s hs k => by
    induction k with
    | zero => rfl
    | succ k ih =>
      show f (itf f m (s + k)) = _
      rw [ih]
      exact hs
  have grow : ∀ r, (∃ s, s ≤ r ∧ f (itf f m s) = itf f m s) ∨ r + 1 ≤ pn_ct (fun i => (itf f m (r + 1)).testBit i) 16 := by
    intro r
    have one : ∀ s, f (itf f m s) ≠ itf f m s → pn_ct (fun i => (itf f m s).testBit i) 16 < pn_ct (fun i => (itf f m (s + 1)).testBit i) 16 := fun s hs => by
      have hl := itf_lt hb hm s
      have hl2 := hb _ hl
      refine pn_ct_str (fun i _ h => ha _ i hl h) ?_
      rcases Classical.em (∃ i, i < 16 ∧ (itf f m s).testBit i = false ∧ (itf f m (s + 1)).testBit i = true) with h | h
      · exact h
      · refine absurd (Nat.eq_of_testBit_eq (fun i => ?_)) hs
        rcases Nat.lt_or_ge i 16 with hi | hi
        · cases h1 : (itf f m s).testBit i with
          | true => exact ha _ i hl h1
          | false =>
            cases h2 : (f (itf f m s)).testBit i with
            | false => rfl
            | true => exact absurd ⟨i, hi, h1, h2⟩ h
        · rw [bits_hi hl hi, bits_hi hl2 hi]
    induction r with
    | zero =>
      by_cases h : f (itf f m 0) = itf f m 0
      · exact Or.inl ⟨0, Nat.le_refl 0, h⟩
      · have := one 0 h
        exact Or.inr (by omega)
    | succ r ih =>
      rcases ih with ⟨s, hs, h⟩ | ih
      · exact Or.inl ⟨s, by omega, h⟩
      · by_cases h : f (itf f m (r + 1)) = itf f m (r + 1)
        · exact Or.inl ⟨r + 1, Nat.le_refl _, h⟩
        · have := one (r + 1) h
          exact Or.inr (by omega)
  rcases grow 16 with ⟨s, hs, h⟩ | h
  · have e := stay s h (16 - s)
    rw [show s + (16 - s) = 16 by omega] at e
    rw [e]
    exact h
  · have := pn_ct_le (fun i => (itf f m (16 + 1)).testBit i) 16
    omega
theorem itf_sup {f : Nat → Nat} (ha : ∀ m i, m < 65536 → m.testBit i = true → (f m).testBit i = true) (hb : ∀ m, m < 65536 → f m < 65536) {m : Nat} (hm : m < 65536) {i : Nat} (h : m.testBit i = true) : ∀ r, (itf f m r).testBit i = true
  | 0 => h
  | r + 1 => ha _ i (itf_lt hb hm r) (itf_sup ha hb hm h r)
theorem itf_snd {f : Nat → Nat} {P : Nat → Prop} (hc : ∀ m, (∀ i, m.testBit i = true → P i) → ∀ i, (f m).testBit i = true → P i) {m : Nat} (hm : ∀ i, m.testBit i = true → P i) : ∀ r i, (itf f m r).testBit i = true → P i
  | 0 => hm
  | r + 1 => hc _ (itf_snd hc hm r)
/-- the reference's round: over pairs -/
def fwk (nd : Nat → Nat → Bool) (m : Nat) : Nat → Nat
  | 0 => m
  | k + 1 => if nd (k / 16) (k % 16) = true ∧ (fwk nd m k).testBit (k / 16) = true then fwk nd m k ||| 2 ^ (k % 16) else fwk nd m k
theorem tb_or {m j i : Nat} : (m ||| 2 ^ j).testBit i = true ↔ m.testBit i = true ∨ i = j := by
  rw [Nat.testBit_or, Nat.testBit_two_pow, Bool.or_eq_true, decide_eq_true_eq]
  exact ⟨fun h => h.elim Or.inl (fun h => Or.inr h.symm), fun h => h.elim Or.inl (fun h => Or.inr h.symm)⟩
theorem fwk_sup {nd : Nat → Nat → Bool} {m i : Nat} (h : m.testBit i = true) : ∀ k, (fwk nd m k).testBit i = true
  | 0 => h
  | k + 1 => by
    have ih := fwk_sup (nd := nd) h k
    unfold fwk
    split
    · exact tb_or.mpr (Or.inl ih)
    · exact ih
theorem fwk_lt {nd : Nat → Nat → Bool} {m : Nat} (h : m < 65536) : ∀ k, fwk nd m k < 65536
  | 0 => h
  | k + 1 => by
    have ih := fwk_lt (nd := nd) h k
    unfold fwk
    split
    · exact Nat.or_lt_two_pow (n := 16) ih (Nat.pow_lt_pow_right (by decide) (Nat.mod_lt _ (by decide)))
    · exact ih
theorem fwk_snd {nd : Nat → Nat → Bool} {P : Nat → Prop} (hP : ∀ i j, i < 16 → j < 16 → P i → nd i j = true → P j) {m : Nat} (hm : ∀ i, m.testBit i = true → P i) : ∀ k, k ≤ 256 → ∀ i, (fwk nd m k).testBit i = true → P i
  | 0, _, i, h => hm i h
  | k + 1, hk, i, h => by
    have ih := fwk_snd hP hm k (by omega)
    by_cases hc : nd (k / 16) (k % 16) = true ∧ (fwk nd m k).testBit (k / 16) = true
    · rw [show fwk nd m (k + 1) = fwk nd m k ||| 2 ^ (k % 16) from if_pos hc] at h
      rcases tb_or.mp h with h | h
      · exact ih i h
      · rw [h]
        exact hP _ _ (by omega) (by omega) (ih _ hc.2) hc.1
    · rw [show fwk nd m (k + 1) = fwk nd m k from if_neg hc] at h
      exact ih i h
theorem fwk_mono {nd : Nat → Nat → Bool} {m i : Nat} {k : Nat} (h : (fwk nd m k).testBit i = true) : ∀ l, (fwk nd m (k + l)).testBit i = true
  | 0 => h
  | l + 1 => by
    have ih := fwk_mono h l
    show (fwk nd m (k + l + 1)).testBit i = true
    unfold fwk
    split
    · exact tb_or.mpr (Or.inl ih)
    · exact ih
theorem fwk_cl {nd : Nat → Nat → Bool} {m : Nat} (hf : fwk nd m 256 = m) {i j : Nat} (hi : i < 16) (hj : j < 16) (h : m.testBit i = true) (hn : nd i j = true) : m.testBit j = true := by
  rw [← hf]
  have h1 : (fwk nd m (16 * i + j + 1)).testBit j = true := by
    have e1 : (16 * i + j) / 16 = i := by omega
    have e2 : (16 * i + j) % 16 = j := by omega
    rw [show fwk nd m (16 * i + j + 1) = fwk nd m (16 * i + j) ||| 2 ^ ((16 * i + j) % 16) from if_pos (by rw [e1, e2]; exact ⟨hn, fwk_sup h _⟩)]
    exact tb_or.mpr (Or.inr e2.symm)
  have := fwk_mono h1 (256 - (16 * i + j + 1))
  rw [show 16 * i + j + 1 + (256 - (16 * i + j + 1)) = 256 by omega] at this
  exact this
/-- the class's round: over boxes -/
def bwk (er : Nat → Nat) (m : Nat) : Nat → Nat
  | 0 => m
  | k + 1 => if (bwk er m k).testBit k = true then bwk er m k ||| er k else bwk er m k
theorem tb_or2 {m l i : Nat} : (m ||| l).testBit i = true ↔ m.testBit i = true ∨ l.testBit i = true := by
  rw [Nat.testBit_or, Bool.or_eq_true]
theorem bwk_sup {er : Nat → Nat} {m i : Nat} (h : m.testBit i = true) : ∀ k, (bwk er m k).testBit i = true
  | 0 => h
  | k + 1 => by
    have ih := bwk_sup (er := er) h k
    unfold bwk
    split
    · exact tb_or2.mpr (Or.inl ih)
    · exact ih
theorem bwk_lt {er : Nat → Nat} (he : ∀ k, er k < 65536) {m : Nat} (h : m < 65536) : ∀ k, bwk er m k < 65536
  | 0 => h
  | k + 1 => by
    have ih := bwk_lt he h k
    unfold bwk
    split
    · exact Nat.or_lt_two_pow (n := 16) ih (he k)
    · exact ih
theorem bwk_snd {er : Nat → Nat} {n : Nat} {P : Nat → Prop} (hP : ∀ k i, k < n → P k → (er k).testBit i = true → P i) {m : Nat} (hm : ∀ i, m.testBit i = true → P i) : ∀ k, k ≤ n → ∀ i, (bwk er m k).testBit i = true → P i
  | 0, _, i, h => hm i h
  | k + 1, hk, i, h => by
    have ih := bwk_snd hP hm k (by omega)
    by_cases hc : (bwk er m k).testBit k = true
    · rw [show bwk er m (k + 1) = bwk er m k ||| er k from if_pos hc] at h
      rcases tb_or2.mp h with h | h
      · exact ih i h
      · exact hP k i (by omega) (ih _ hc) h
    · rw [show bwk er m (k + 1) = bwk er m k from if_neg hc] at h
      exact ih i h
theorem bwk_mono {er : Nat → Nat} {m i : Nat} {k : Nat} (h : (bwk er m k).testBit i = true) : ∀ l, (bwk er m (k + l)).testBit i = true
  | 0 => h
  | l + 1 => by
    have ih := bwk_mono h l
    show (bwk er m (k + l + 1)).testBit i = true
    unfold bwk
    split
    · exact tb_or2.mpr (Or.inl ih)
    · exact ih
theorem bwk_cl {er : Nat → Nat} {m n : Nat} (hf : bwk er m n = m) {k i : Nat} (hk : k < n) (h : m.testBit k = true) (he : (er k).testBit i = true) : m.testBit i = true := by
  rw [← hf]
  have h1 : (bwk er m (k + 1)).testBit i = true := by
    rw [show bwk er m (k + 1) = bwk er m k ||| er k from if_pos (bwk_sup h k)]
    exact tb_or2.mpr (Or.inr he)
  have := bwk_mono h1 (n - (k + 1))
  rw [show k + 1 + (n - (k + 1)) = n by omega] at this
  exact this
/-- y leads to x in the one exactly if it is x, or is before x in the other -/
theorem close_iff {nd : Nat → Nat → Bool} {er : Nat → Nat} {n : Nat} (hn : n ≤ 16) (he : ∀ k, er k < 65536) (h1 : ∀ i j, i < 16 → j < 16 → (nd i j = true ↔ j < n ∧ (er j).testBit i = true)) (h2 : ∀ j i, (er j).testBit i = true → i < n) {x y : Nat} (hx : x < n) (hy : y < n) :
    (itf (fun m => fwk nd m 256) (2 ^ y) 16).testBit x = true ↔ y = x ∨ (itf (fun m => bwk er m n) (er x) 16).testBit y = true := by
  have hy2 : 2 ^ y < 65536 := show 2 ^ y < 2 ^ 16 from Nat.pow_lt_pow_right (by decide) (by omega)
  have fa : ∀ m i, m < 65536 → m.testBit i = true → (fwk nd m 256).testBit i = true := fun m i _ h => fwk_sup h 256
  have fb : ∀ m, m < 65536 → fwk nd m 256 < 65536 := fun m h => fwk_lt h 256
  have ba : ∀ m i, m < 65536 → m.testBit i = true → (bwk er m n).testBit i = true := fun m i _ h => bwk_sup h n
  have bb : ∀ m, m < 65536 → bwk er m n < 65536 := fun m h => bwk_lt he h n
  have fF := itf_fix fa fb hy2
  have bF := itf_fix ba bb (he x)
  have fL := itf_lt fb hy2 16
  constructor
  · intro h
    -- forward set: each is y or has y before it
    let P : Nat → Prop := fun z => z < n ∧ (y = z ∨ ∀ Q : Nat → Prop, (∀ i, (er z).testBit i = true → Q i) → (∀ k i, k < n → Q k → (er k).testBit i = true → Q i) → Q y)
    have hP : ∀ i, (itf (fun m => fwk nd m 256) (2 ^ y) 16).testBit i = true → P i := by
      refine itf_snd (f := fun m => fwk nd m 256) (P := P) (fun m hm i hi => ?_) (fun i hi => ?_) 16
      · refine fwk_snd (P := P) (fun a b ha16 hb16 ha hab => ?_) hm 256 (Nat.le_refl _) i hi
        obtain ⟨q1, q2⟩ := (h1 a b ha16 hb16).mp hab
        refine ⟨q1, ?_⟩
        rcases ha.2 with e | e
        · exact Or.inr (fun Q w1 _ => w1 y (e ▸ q2))
        · exact Or.inr (fun Q w1 w2 => e Q (fun i hi => w2 a i ha.1 (w1 a q2) hi) w2)
      · have : i = y := by
          rw [Nat.testBit_two_pow, decide_eq_true_eq] at hi
          exact hi.symm
        exact ⟨by omega, Or.inl this.symm⟩
    rcases (hP x h).2 with e | e
    · exact Or.inl e
    · exact Or.inr (e (fun z => (itf (fun m => bwk er m n) (er x) 16).testBit z = true) (fun i hi => itf_sup ba bb (he x) hi 16) (fun k i hk hq hi => bwk_cl bF hk hq hi))
  · rintro (h | h)
    · rw [← h]
      exact itf_sup fa fb hy2 (by rw [Nat.testBit_two_pow]; exact decide_eq_true rfl) 16
    · -- backward set: each of them leads to x
      have hQ := itf_snd (f := fun m => bwk er m n) (P := fun z => z < n ∧ ∀ S : Nat → Prop, S z → (∀ i j, i < 16 → j < 16 → S i → nd i j = true → S j) → S x) (fun m hm i hi => bwk_snd (n := n) (fun k i hk hp hki => ⟨h2 k i hki, fun S s1 s2 => hp.2 S (s2 i k (by have := h2 k i hki; omega) (by omega) s1 ((h1 i k (by have := h2 k i hki; omega) (by omega)).mpr ⟨hk, hki⟩)) s2⟩) hm n (Nat.le_refl n) i hi) (m := er x) (fun i hi => ⟨h2 x i hi, fun S s1 s2 => s2 i x (by have := h2 x i hi; omega) (by omega) s1 ((h1 i x (by have := h2 x i hi; omega) (by omega)).mpr ⟨hx, hi⟩)⟩) 16 y h
      exact hQ.2 (fun z => (itf (fun m => fwk nd m 256) (2 ^ y) 16).testBit z = true) (itf_sup fa fb hy2 (by rw [Nat.testBit_two_pow]; exact decide_eq_true rfl) 16) (fun i j hi hj hs hn => fwk_cl fF hi hj hs hn)
