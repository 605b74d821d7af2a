/-! The reference: work. -/
section SE
variable {B : Nat} {sc : Option (Nat × Nat × (Nat → Int32))} {d : Nat} {ad : Nat → Nat} {σ : ck_S} {ρ : rs_S} {K : rp_K} {C : px_P}
theorem Sim.w1 {σ : ck_S} {p : Nat × Nat × Nat} {fs fs' : Nat → Int32} {fa : Nat → Nat → Int32} {fw : Nat → Int64} (h : Sim σ (p, fs, fa, fw)) {b j m w : Nat} (hb : b < cs_nb σ) (hj : j < cs_n σ) (h0 : ¬ cs_yf σ b 0 = 0) (hm : cs_yf σ b 1 = nI m) (hw : cs_yf σ b 2 = nI w) (hwm : w < m) (hm12 : m ≤ 12) (t to : Int32) (f1 : fs' 1 = fs 1) (f2 : fs' 2 = fs 2 + 1) : Sim (cs_w1 σ b j t to) (p, fs', (va_up (va_up (va_up fa 4 (upd (fa 4) j t)) 3 (upd (fa 3) j to)) 9 (upd (fa 9) b (cs_yf σ b 2 + 1))), fw) := by
  obtain ⟨⟨h1, h1a, h1b⟩, h2, h3, h4⟩ := h
  have n1 : rs_a (p, fs', (va_up (va_up (va_up fa 4 (upd (fa 4) j t)) 3 (upd (fa 3) j to)) 9 (upd (fa 9) b (cs_yf σ b 2 + 1))), fw) 1 = fa 1 := by
    show (va_up (va_up (va_up fa 4 (upd (fa 4) j t)) 3 (upd (fa 3) j to)) 9 (upd (fa 9) b (cs_yf σ b 2 + 1))) 1 = _
    rw [va_up_ne _ _ (by omega), va_up_ne _ _ (by omega), va_up_ne _ _ (by omega)]
  have n2 : rs_a (p, fs', (va_up (va_up (va_up fa 4 (upd (fa 4) j t)) 3 (upd (fa 3) j to)) 9 (upd (fa 9) b (cs_yf σ b 2 + 1))), fw) 2 = fa 2 := by
    show (va_up (va_up (va_up fa 4 (upd (fa 4) j t)) 3 (upd (fa 3) j to)) 9 (upd (fa 9) b (cs_yf σ b 2 + 1))) 2 = _
    rw [va_up_ne _ _ (by omega), va_up_ne _ _ (by omega), va_up_ne _ _ (by omega)]
  have n5 : rs_a (p, fs', (va_up (va_up (va_up fa 4 (upd (fa 4) j t)) 3 (upd (fa 3) j to)) 9 (upd (fa 9) b (cs_yf σ b 2 + 1))), fw) 5 = fa 5 := by
    show (va_up (va_up (va_up fa 4 (upd (fa 4) j t)) 3 (upd (fa 3) j to)) 9 (upd (fa 9) b (cs_yf σ b 2 + 1))) 5 = _
    rw [va_up_ne _ _ (by omega), va_up_ne _ _ (by omega), va_up_ne _ _ (by omega)]
  have n7 : rs_a (p, fs', (va_up (va_up (va_up fa 4 (upd (fa 4) j t)) 3 (upd (fa 3) j to)) 9 (upd (fa 9) b (cs_yf σ b 2 + 1))), fw) 7 = fa 7 := by
    show (va_up (va_up (va_up fa 4 (upd (fa 4) j t)) 3 (upd (fa 3) j to)) 9 (upd (fa 9) b (cs_yf σ b 2 + 1))) 7 = _
    rw [va_up_ne _ _ (by omega), va_up_ne _ _ (by omega), va_up_ne _ _ (by omega)]
  have n8 : rs_a (p, fs', (va_up (va_up (va_up fa 4 (upd (fa 4) j t)) 3 (upd (fa 3) j to)) 9 (upd (fa 9) b (cs_yf σ b 2 + 1))), fw) 8 = fa 8 := by
    show (va_up (va_up (va_up fa 4 (upd (fa 4) j t)) 3 (upd (fa 3) j to)) 9 (upd (fa 9) b (cs_yf σ b 2 + 1))) 8 = _
    rw [va_up_ne _ _ (by omega), va_up_ne _ _ (by omega), va_up_ne _ _ (by omega)]
  have n10 : rs_a (p, fs', (va_up (va_up (va_up fa 4 (upd (fa 4) j t)) 3 (upd (fa 3) j to)) 9 (upd (fa 9) b (cs_yf σ b 2 + 1))), fw) 10 = fa 10 := by
    show (va_up (va_up (va_up fa 4 (upd (fa 4) j t)) 3 (upd (fa 3) j to)) 9 (upd (fa 9) b (cs_yf σ b 2 + 1))) 10 = _
    rw [va_up_ne _ _ (by omega), va_up_ne _ _ (by omega), va_up_ne _ _ (by omega)]
  have n11 : rs_a (p, fs', (va_up (va_up (va_up fa 4 (upd (fa 4) j t)) 3 (upd (fa 3) j to)) 9 (upd (fa 9) b (cs_yf σ b 2 + 1))), fw) 11 = fa 11 := by
    show (va_up (va_up (va_up fa 4 (upd (fa 4) j t)) 3 (upd (fa 3) j to)) 9 (upd (fa 9) b (cs_yf σ b 2 + 1))) 11 = _
    rw [va_up_ne _ _ (by omega), va_up_ne _ _ (by omega), va_up_ne _ _ (by omega)]
  have n12 : rs_a (p, fs', (va_up (va_up (va_up fa 4 (upd (fa 4) j t)) 3 (upd (fa 3) j to)) 9 (upd (fa 9) b (cs_yf σ b 2 + 1))), fw) 12 = fa 12 := by
    show (va_up (va_up (va_up fa 4 (upd (fa 4) j t)) 3 (upd (fa 3) j to)) 9 (upd (fa 9) b (cs_yf σ b 2 + 1))) 12 = _
    rw [va_up_ne _ _ (by omega), va_up_ne _ _ (by omega), va_up_ne _ _ (by omega)]
  have n6 : rs_a (p, fs', (va_up (va_up (va_up fa 4 (upd (fa 4) j t)) 3 (upd (fa 3) j to)) 9 (upd (fa 9) b (cs_yf σ b 2 + 1))), fw) 6 = fa 6 := by
    show (va_up (va_up (va_up fa 4 (upd (fa 4) j t)) 3 (upd (fa 3) j to)) 9 (upd (fa 9) b (cs_yf σ b 2 + 1))) 6 = _
    rw [va_up_ne _ _ (by omega), va_up_ne _ _ (by omega), va_up_ne _ _ (by omega)]
  have n4 : rs_a (p, fs', (va_up (va_up (va_up fa 4 (upd (fa 4) j t)) 3 (upd (fa 3) j to)) 9 (upd (fa 9) b (cs_yf σ b 2 + 1))), fw) 4 = upd (fa 4) j t := by
    show (va_up (va_up (va_up fa 4 (upd (fa 4) j t)) 3 (upd (fa 3) j to)) 9 (upd (fa 9) b (cs_yf σ b 2 + 1))) 4 = _
    rw [va_up_ne _ _ (by omega), va_up_ne _ _ (by omega), va_up_self]
  have n3 : rs_a (p, fs', (va_up (va_up (va_up fa 4 (upd (fa 4) j t)) 3 (upd (fa 3) j to)) 9 (upd (fa 9) b (cs_yf σ b 2 + 1))), fw) 3 = upd (fa 3) j to := by
    show (va_up (va_up (va_up fa 4 (upd (fa 4) j t)) 3 (upd (fa 3) j to)) 9 (upd (fa 9) b (cs_yf σ b 2 + 1))) 3 = _
    rw [va_up_ne _ _ (by omega), va_up_self]
  have n9 : rs_a (p, fs', (va_up (va_up (va_up fa 4 (upd (fa 4) j t)) 3 (upd (fa 3) j to)) 9 (upd (fa 9) b (cs_yf σ b 2 + 1))), fw) 9 = upd (fa 9) b (cs_yf σ b 2 + 1) := by
    show (va_up (va_up (va_up fa 4 (upd (fa 4) j t)) 3 (upd (fa 3) j to)) 9 (upd (fa 9) b (cs_yf σ b 2 + 1))) 9 = _
    rw [va_up_self]
  have bj : cs_bf (cs_w1 σ b j t to) j = (fun q => match q with | 0 => cs_bf σ j 0 | 1 => cs_bf σ j 1 | 2 => to | 3 => t | _ => cs_bf σ j 4) := va_up_self (cs_bf σ) j _
  have bn : ∀ i, i ≠ j → cs_bf (cs_w1 σ b j t to) i = cs_bf σ i := fun i hi => va_up_ne (cs_bf σ) _ hi
  have b4 : ∀ i, cs_bf (cs_w1 σ b j t to) i 4 = cs_bf σ i 4 := fun i => by
    by_cases hi : i = j
    · rw [hi, bj]
      rfl
    · rw [bn i hi]
  have yn : ∀ c, c ≠ b → cs_yf (cs_w1 σ b j t to) c = cs_yf σ c := fun c hc => va_up_ne (cs_yf σ) _ hc
  have yb : cs_yf (cs_w1 σ b j t to) b = (fun q => match q with | 0 => cs_yf σ b 0 | 1 => cs_yf σ b 1 | 2 => cs_yf σ b 2 + 1 | _ => cs_yf σ b 3) := va_up_self (cs_yf σ) b _
  refine ⟨⟨h1, by rw [show rs_sc (p, fs', (va_up (va_up (va_up fa 4 (upd (fa 4) j t)) 3 (upd (fa 3) j to)) 9 (upd (fa 9) b (cs_yf σ b 2 + 1))), fw) 1 = _ from f1]; exact h1a, by rw [show rs_sc (p, fs', (va_up (va_up (va_up fa 4 (upd (fa 4) j t)) 3 (upd (fa 3) j to)) 9 (upd (fa 9) b (cs_yf σ b 2 + 1))), fw) 2 = _ from f2]; exact congrArg (· + 1) h1b⟩, fun i hi => ?_, fun i k hi hk => ?_, fun c hc => ?_⟩
  · rw [n1, n2, n3, n4]
    obtain ⟨q1, q2, q3, q4⟩ := h2 i hi
    by_cases hij : i = j
    · subst hij
      rw [bj, pk_us, pk_us]
      exact ⟨q1, q2, rfl, rfl⟩
    · rw [bn i hij, pk_un hij, pk_un hij]
      exact ⟨q1, q2, q3, q4⟩
  · rw [n5]
    have e : cs_need (cs_w1 σ b j t to) i k ↔ cs_need σ i k := by
      unfold cs_need
      rw [b4 k]
      exact Iff.rfl
    rw [e]
    exact h3 i k hi hk
  · rw [n6, n7, n8, n9, n10, n11, n12]
    obtain ⟨q1, q2, q3, m', d', q4, q5, q6, q7⟩ := h4 c hc
    by_cases hcb : c = b
    · subst hcb
      rw [yb, pk_us]
      obtain ⟨w8, w9, w12⟩ := q3 h0
      refine ⟨q1, q2, fun _ => ⟨w8, rfl, w12⟩, m, w + 1, ?_, ?_, hwm, hm12⟩
      · rw [← hm]
        exact w8
      · rw [hw]
        exact (nI_succ w).symm
    · rw [yn c hcb, pk_un hcb]
      exact ⟨q1, q2, q3, m', d', q4, q5, q6, q7⟩
theorem Sim.w2 {σ : ck_S} {p : Nat × Nat × Nat} {fs fs' : Nat → Int32} {fa : Nat → Nat → Int32} {fw : Nat → Int64} (h : Sim σ (p, fs, fa, fw)) {b j m w : Nat} (hb : b < cs_nb σ) (hj : j < cs_n σ) (h0 : ¬ cs_yf σ b 0 = 0) (hm : cs_yf σ b 1 = nI m) (hw : cs_yf σ b 2 = nI w) (hwm : w < m) (hm12 : m ≤ 12) (t to : Int32) (f1 : fs' 1 = fs 1 + 1) (f2 : fs' 2 = fs 2 + 1) : Sim (cs_w2 σ b j t to) (p, fs', (va_up (va_up (va_up (va_up fa 4 (upd (fa 4) j t)) 3 (upd (fa 3) j to)) 6 (upd (fa 6) b (cs_yf σ b 3 - 1))) 9 (upd (fa 9) b (cs_yf σ b 2 + 1))), fw) := by
  obtain ⟨⟨h1, h1a, h1b⟩, h2, h3, h4⟩ := h
  have n1 : rs_a (p, fs', (va_up (va_up (va_up (va_up fa 4 (upd (fa 4) j t)) 3 (upd (fa 3) j to)) 6 (upd (fa 6) b (cs_yf σ b 3 - 1))) 9 (upd (fa 9) b (cs_yf σ b 2 + 1))), fw) 1 = fa 1 := by
    show (va_up (va_up (va_up (va_up fa 4 (upd (fa 4) j t)) 3 (upd (fa 3) j to)) 6 (upd (fa 6) b (cs_yf σ b 3 - 1))) 9 (upd (fa 9) b (cs_yf σ b 2 + 1))) 1 = _
    rw [va_up_ne _ _ (by omega), va_up_ne _ _ (by omega), va_up_ne _ _ (by omega), va_up_ne _ _ (by omega)]
  have n2 : rs_a (p, fs', (va_up (va_up (va_up (va_up fa 4 (upd (fa 4) j t)) 3 (upd (fa 3) j to)) 6 (upd (fa 6) b (cs_yf σ b 3 - 1))) 9 (upd (fa 9) b (cs_yf σ b 2 + 1))), fw) 2 = fa 2 := by
    show (va_up (va_up (va_up (va_up fa 4 (upd (fa 4) j t)) 3 (upd (fa 3) j to)) 6 (upd (fa 6) b (cs_yf σ b 3 - 1))) 9 (upd (fa 9) b (cs_yf σ b 2 + 1))) 2 = _
    rw [va_up_ne _ _ (by omega), va_up_ne _ _ (by omega), va_up_ne _ _ (by omega), va_up_ne _ _ (by omega)]
  have n5 : rs_a (p, fs', (va_up (va_up (va_up (va_up fa 4 (upd (fa 4) j t)) 3 (upd (fa 3) j to)) 6 (upd (fa 6) b (cs_yf σ b 3 - 1))) 9 (upd (fa 9) b (cs_yf σ b 2 + 1))), fw) 5 = fa 5 := by
    show (va_up (va_up (va_up (va_up fa 4 (upd (fa 4) j t)) 3 (upd (fa 3) j to)) 6 (upd (fa 6) b (cs_yf σ b 3 - 1))) 9 (upd (fa 9) b (cs_yf σ b 2 + 1))) 5 = _
    rw [va_up_ne _ _ (by omega), va_up_ne _ _ (by omega), va_up_ne _ _ (by omega), va_up_ne _ _ (by omega)]
  have n7 : rs_a (p, fs', (va_up (va_up (va_up (va_up fa 4 (upd (fa 4) j t)) 3 (upd (fa 3) j to)) 6 (upd (fa 6) b (cs_yf σ b 3 - 1))) 9 (upd (fa 9) b (cs_yf σ b 2 + 1))), fw) 7 = fa 7 := by
    show (va_up (va_up (va_up (va_up fa 4 (upd (fa 4) j t)) 3 (upd (fa 3) j to)) 6 (upd (fa 6) b (cs_yf σ b 3 - 1))) 9 (upd (fa 9) b (cs_yf σ b 2 + 1))) 7 = _
    rw [va_up_ne _ _ (by omega), va_up_ne _ _ (by omega), va_up_ne _ _ (by omega), va_up_ne _ _ (by omega)]
  have n8 : rs_a (p, fs', (va_up (va_up (va_up (va_up fa 4 (upd (fa 4) j t)) 3 (upd (fa 3) j to)) 6 (upd (fa 6) b (cs_yf σ b 3 - 1))) 9 (upd (fa 9) b (cs_yf σ b 2 + 1))), fw) 8 = fa 8 := by
    show (va_up (va_up (va_up (va_up fa 4 (upd (fa 4) j t)) 3 (upd (fa 3) j to)) 6 (upd (fa 6) b (cs_yf σ b 3 - 1))) 9 (upd (fa 9) b (cs_yf σ b 2 + 1))) 8 = _
    rw [va_up_ne _ _ (by omega), va_up_ne _ _ (by omega), va_up_ne _ _ (by omega), va_up_ne _ _ (by omega)]
  have n10 : rs_a (p, fs', (va_up (va_up (va_up (va_up fa 4 (upd (fa 4) j t)) 3 (upd (fa 3) j to)) 6 (upd (fa 6) b (cs_yf σ b 3 - 1))) 9 (upd (fa 9) b (cs_yf σ b 2 + 1))), fw) 10 = fa 10 := by
    show (va_up (va_up (va_up (va_up fa 4 (upd (fa 4) j t)) 3 (upd (fa 3) j to)) 6 (upd (fa 6) b (cs_yf σ b 3 - 1))) 9 (upd (fa 9) b (cs_yf σ b 2 + 1))) 10 = _
    rw [va_up_ne _ _ (by omega), va_up_ne _ _ (by omega), va_up_ne _ _ (by omega), va_up_ne _ _ (by omega)]
  have n11 : rs_a (p, fs', (va_up (va_up (va_up (va_up fa 4 (upd (fa 4) j t)) 3 (upd (fa 3) j to)) 6 (upd (fa 6) b (cs_yf σ b 3 - 1))) 9 (upd (fa 9) b (cs_yf σ b 2 + 1))), fw) 11 = fa 11 := by
    show (va_up (va_up (va_up (va_up fa 4 (upd (fa 4) j t)) 3 (upd (fa 3) j to)) 6 (upd (fa 6) b (cs_yf σ b 3 - 1))) 9 (upd (fa 9) b (cs_yf σ b 2 + 1))) 11 = _
    rw [va_up_ne _ _ (by omega), va_up_ne _ _ (by omega), va_up_ne _ _ (by omega), va_up_ne _ _ (by omega)]
  have n12 : rs_a (p, fs', (va_up (va_up (va_up (va_up fa 4 (upd (fa 4) j t)) 3 (upd (fa 3) j to)) 6 (upd (fa 6) b (cs_yf σ b 3 - 1))) 9 (upd (fa 9) b (cs_yf σ b 2 + 1))), fw) 12 = fa 12 := by
    show (va_up (va_up (va_up (va_up fa 4 (upd (fa 4) j t)) 3 (upd (fa 3) j to)) 6 (upd (fa 6) b (cs_yf σ b 3 - 1))) 9 (upd (fa 9) b (cs_yf σ b 2 + 1))) 12 = _
    rw [va_up_ne _ _ (by omega), va_up_ne _ _ (by omega), va_up_ne _ _ (by omega), va_up_ne _ _ (by omega)]
  have n4 : rs_a (p, fs', (va_up (va_up (va_up (va_up fa 4 (upd (fa 4) j t)) 3 (upd (fa 3) j to)) 6 (upd (fa 6) b (cs_yf σ b 3 - 1))) 9 (upd (fa 9) b (cs_yf σ b 2 + 1))), fw) 4 = upd (fa 4) j t := by
    show (va_up (va_up (va_up (va_up fa 4 (upd (fa 4) j t)) 3 (upd (fa 3) j to)) 6 (upd (fa 6) b (cs_yf σ b 3 - 1))) 9 (upd (fa 9) b (cs_yf σ b 2 + 1))) 4 = _
    rw [va_up_ne _ _ (by omega), va_up_ne _ _ (by omega), va_up_ne _ _ (by omega), va_up_self]
  have n3 : rs_a (p, fs', (va_up (va_up (va_up (va_up fa 4 (upd (fa 4) j t)) 3 (upd (fa 3) j to)) 6 (upd (fa 6) b (cs_yf σ b 3 - 1))) 9 (upd (fa 9) b (cs_yf σ b 2 + 1))), fw) 3 = upd (fa 3) j to := by
    show (va_up (va_up (va_up (va_up fa 4 (upd (fa 4) j t)) 3 (upd (fa 3) j to)) 6 (upd (fa 6) b (cs_yf σ b 3 - 1))) 9 (upd (fa 9) b (cs_yf σ b 2 + 1))) 3 = _
    rw [va_up_ne _ _ (by omega), va_up_ne _ _ (by omega), va_up_self]
  have n9 : rs_a (p, fs', (va_up (va_up (va_up (va_up fa 4 (upd (fa 4) j t)) 3 (upd (fa 3) j to)) 6 (upd (fa 6) b (cs_yf σ b 3 - 1))) 9 (upd (fa 9) b (cs_yf σ b 2 + 1))), fw) 9 = upd (fa 9) b (cs_yf σ b 2 + 1) := by
    show (va_up (va_up (va_up (va_up fa 4 (upd (fa 4) j t)) 3 (upd (fa 3) j to)) 6 (upd (fa 6) b (cs_yf σ b 3 - 1))) 9 (upd (fa 9) b (cs_yf σ b 2 + 1))) 9 = _
    rw [va_up_self]
  have n6 : rs_a (p, fs', (va_up (va_up (va_up (va_up fa 4 (upd (fa 4) j t)) 3 (upd (fa 3) j to)) 6 (upd (fa 6) b (cs_yf σ b 3 - 1))) 9 (upd (fa 9) b (cs_yf σ b 2 + 1))), fw) 6 = upd (fa 6) b (cs_yf σ b 3 - 1) := by
    show (va_up (va_up (va_up (va_up fa 4 (upd (fa 4) j t)) 3 (upd (fa 3) j to)) 6 (upd (fa 6) b (cs_yf σ b 3 - 1))) 9 (upd (fa 9) b (cs_yf σ b 2 + 1))) 6 = _
    rw [va_up_ne _ _ (by omega), va_up_self]
  have bj : cs_bf (cs_w2 σ b j t to) j = (fun q => match q with | 0 => cs_bf σ j 0 | 1 => cs_bf σ j 1 | 2 => to | 3 => t | _ => cs_bf σ j 4) := va_up_self (cs_bf σ) j _
  have bn : ∀ i, i ≠ j → cs_bf (cs_w2 σ b j t to) i = cs_bf σ i := fun i hi => va_up_ne (cs_bf σ) _ hi
  have b4 : ∀ i, cs_bf (cs_w2 σ b j t to) i 4 = cs_bf σ i 4 := fun i => by
    by_cases hi : i = j
    · rw [hi, bj]
      rfl
    · rw [bn i hi]
  have yn : ∀ c, c ≠ b → cs_yf (cs_w2 σ b j t to) c = cs_yf σ c := fun c hc => (va_up_ne (cs_yf (cs_w1 σ b j t to)) _ hc).trans (va_up_ne (cs_yf σ) _ hc)
  have yb : cs_yf (cs_w2 σ b j t to) b = (fun q => match q with | 0 => cs_yf σ b 0 | 1 => cs_yf σ b 1 | 2 => cs_yf σ b 2 + 1 | _ => cs_yf σ b 3 - 1) := va_up_self (cs_yf (cs_w1 σ b j t to)) b _
  refine ⟨⟨h1, by rw [show rs_sc (p, fs', (va_up (va_up (va_up (va_up fa 4 (upd (fa 4) j t)) 3 (upd (fa 3) j to)) 6 (upd (fa 6) b (cs_yf σ b 3 - 1))) 9 (upd (fa 9) b (cs_yf σ b 2 + 1))), fw) 1 = _ from f1]; exact congrArg (· + 1) h1a, by rw [show rs_sc (p, fs', (va_up (va_up (va_up (va_up fa 4 (upd (fa 4) j t)) 3 (upd (fa 3) j to)) 6 (upd (fa 6) b (cs_yf σ b 3 - 1))) 9 (upd (fa 9) b (cs_yf σ b 2 + 1))), fw) 2 = _ from f2]; exact congrArg (· + 1) h1b⟩, fun i hi => ?_, fun i k hi hk => ?_, fun c hc => ?_⟩
  · rw [n1, n2, n3, n4]
    obtain ⟨q1, q2, q3, q4⟩ := h2 i hi
    by_cases hij : i = j
    · subst hij
      rw [bj, pk_us, pk_us]
      exact ⟨q1, q2, rfl, rfl⟩
    · rw [bn i hij, pk_un hij, pk_un hij]
      exact ⟨q1, q2, q3, q4⟩
  · rw [n5]
    have e : cs_need (cs_w2 σ b j t to) i k ↔ cs_need σ i k := by
      unfold cs_need
      rw [b4 k]
      exact Iff.rfl
    rw [e]
    exact h3 i k hi hk
  · rw [n6, n7, n8, n9, n10, n11, n12]
    obtain ⟨q1, q2, q3, m', d', q4, q5, q6, q7⟩ := h4 c hc
    by_cases hcb : c = b
    · subst hcb
      rw [yb, pk_us, pk_us]
      obtain ⟨w8, w9, w12⟩ := q3 h0
      refine ⟨rfl, q2, fun _ => ⟨w8, rfl, w12⟩, m, w + 1, ?_, ?_, hwm, hm12⟩
      · rw [← hm]
        exact w8
      · rw [hw]
        exact (nI_succ w).symm
    · rw [yn c hcb, pk_un hcb, pk_un hcb]
      exact ⟨q1, q2, q3, m', d', q4, q5, q6, q7⟩
/-- a plan's moves: boxes, where they go -/
def cs_plb (σ : ck_S) : Prop := ∀ b, b < cs_nb σ → ¬ cs_yf σ b 0 = 0 → ∀ i, i < 12 → nI i < cs_yf σ b 1 → ∃ j t : Nat, j < cs_n σ ∧ t < 5 ∧ cs_ya σ b 0 i = nI j ∧ cs_ya σ b 2 i = nI t
theorem rr_work (hR : Rp ad K C) (hr : Rl ad ρ K) (hs : Sim σ ρ) (hn : cs_n σ ≤ 16) (hnb : cs_nb σ ≤ 4) (hpl : cs_pl σ) (hpb : cs_plb σ) (x : Int32) : px_W ps_Y ps_P B sc (d + 2) 83 [.ref (ad 100), .int x] C 0 0 (px_oR ad K (of_work σ x)) px_no := by
  obtain ⟨p, fs, fa, fw⟩ := ρ
  obtain rfl : p = σ.1 := hs.1.1
  have hA3 : C (ad 103) = some (px_i 16 (fa 3)) := hR.1 103 _ (hr.2.1 3 (by decide) (by decide) (by decide))
  have hA4 : C (ad 104) = some (px_i 16 (fa 4)) := hR.1 104 _ (hr.2.1 4 (by decide) (by decide) (by decide))
  have hA6 : C (ad 106) = some (px_i 4 (fa 6)) := hR.1 106 _ (hr.2.1 6 (by decide) (by decide) (by decide))
  have hA7 : C (ad 107) = some (px_z 4 (fa 7)) := hR.1 107 _ (hr.2.1 7 (by decide) (by decide) (by decide))
  have hA8 : C (ad 108) = some (px_i 4 (fa 8)) := hR.1 108 _ (hr.2.1 8 (by decide) (by decide) (by decide))
  have hA9 : C (ad 109) = some (px_i 4 (fa 9)) := hR.1 109 _ (hr.2.1 9 (by decide) (by decide) (by decide))
  have hA10 : C (ad 110) = some (px_i 160 (fa 10)) := hR.1 110 _ (hr.2.1 10 (by decide) (by decide) (by decide))
  have hA12 : C (ad 112) = some (px_i 160 (fa 12)) := hR.1 112 _ (hr.2.1 12 (by decide) (by decide) (by decide))
  refine ⟨pm_Ref_work, rfl, Nat.le_of_ble_eq_true rfl, fun X hw hX => ?_⟩
  iterate 3 refine px_go hX ?_
  refine ⟨_, (hR.1 100 _ hr.1), 0, 0, _, Nat.le_of_ble_eq_true rfl, Nat.le_of_ble_eq_true rfl, Nat.le_of_ble_eq_true rfl, rr_isBay hR hr hs _, ?_⟩
  rintro _ C ⟨rfl, ⟨b1, rfl⟩ | ⟨b1, rfl⟩⟩
  · obtain ⟨b, hb, rfl⟩ := px_ix2 b1 (by omega)
    refine px_go hX ?_
    refine ⟨fun (c2 : ¬ 1 = 0) => ?_, fun (c2 : 1 = 0) => absurd c2 (by decide)⟩
    obtain ⟨h6, h7, hpl1, -⟩ := hs.2.2.2 b hb
    have h6 : fa 6 b = cs_yf σ b 3 := h6
    have h7 : fa 7 b = cs_yf σ b 0 := h7
    obtain ⟨m, w, hm, hw0, hwm, hm12, -⟩ := hpl b hb
    have hbq : cs_bq σ (nI b) = some b := cs_bq_s2 hnb hb
    iterate 2 refine px_go hX ?_
    refine ⟨_, _, (hR.1 100 _ hr.1), rfl, ?_⟩
    iterate 2 refine px_go hX ?_
    refine ⟨_, _, hA7, (vp_in_nI (by omega) (by omega)), ?_⟩
    rw [nI_clamp (by omega), h7]
    refine px_go hX ?_
    refine ⟨fun (c3 : cs_yf σ b 0 = 0) => ?_, fun (c3 : ¬ cs_yf σ b 0 = 0) => ?_⟩
    · iterate 3 refine px_go hX ?_
      refine ⟨_, (hR.1 100 _ hr.1), 0, 0, _, Nat.le_of_ble_eq_true rfl, Nat.le_of_ble_eq_true rfl, Nat.le_of_ble_eq_true rfl, rr_refuse hR hr hs _, ?_⟩
      rintro _ C ⟨rfl, hC1⟩
      refine px_go hX ?_
      have hq : of_work σ (nI b) = (2, 0, σ) := by
        unfold of_work
        rw [hbq]
        exact if_pos (Or.inl c3)
      rw [hq]
      exact ⟨_, _, hC1, hs, rfl, rfl, fun h => absurd (show (2 : Nat) = 0 from h) (by decide)⟩
    · obtain ⟨w8, w9, w12⟩ := hpl1 c3
      have w8 : fa 8 b = cs_yf σ b 1 := w8
      have w9 : fa 9 b = cs_yf σ b 2 := w9
      iterate 2 refine px_go hX ?_
      refine ⟨_, _, (hR.1 100 _ hr.1), rfl, ?_⟩
      iterate 2 refine px_go hX ?_
      refine ⟨_, _, hA9, (vp_in_nI (by omega) (by omega)), ?_⟩
      rw [nI_clamp (by omega), w9]
      iterate 2 refine px_go hX ?_
      refine ⟨_, _, (hR.1 100 _ hr.1), rfl, ?_⟩
      iterate 2 refine px_go hX ?_
      refine ⟨_, _, hA8, (vp_in_nI (by omega) (by omega)), ?_⟩
      rw [nI_clamp (by omega), w8]
      refine px_go hX ?_
      refine ⟨fun (c4 : ¬ cs_yf σ b 2 = cs_yf σ b 1) => ?_, fun (c4 : cs_yf σ b 2 = cs_yf σ b 1) => ?_⟩
      · have hlt : w < m := by
          rcases Nat.lt_or_ge w m with h | h
          · exact h
          · exact absurd (by rw [hm, hw0, show w = m by omega]) c4
        obtain ⟨j, tt, hj, htt, hbj, hbt⟩ := hpb b hb c3 w (by omega) (by rw [hm]; exact nI_lt hlt (by omega))
        obtain ⟨v10, v11, v12⟩ := w12 w (by omega) (by rw [hm]; exact nI_lt hlt (by omega))
        have v10 : fa 10 (40 * b + w) = nI j := v10.trans hbj
        have v12 : fa 12 (40 * b + w) = cs_ya σ b 2 w := v12
        have hcl : (cs_yf σ b 2).toNatClampNeg = w := by rw [hw0, nI_clamp (by omega)]
        obtain ⟨to, hto⟩ : ∃ z, z = cs_ya σ b 2 w := ⟨_, rfl⟩
        rw [← hto] at v12
        have hq : of_work σ (nI b) = of_wk σ (nI b) b j to := by
          unfold of_work
          rw [hbq]
          show (if _ then _ else _) = _
          rw [if_neg, hcl, hbj, cs_xq_s2 hn hj, hto]
          rintro (q | q | q | q)
          · exact c3 q
          · rw [hw0] at q
            exact nI_pos (by omega) q
          · rw [hm, hw0] at q
            exact nI_ge hlt (by omega) q
          · rw [hw0] at q
            exact nI_ge (by omega : w < 12) (by omega) q
        iterate 3 refine px_go hX ?_
        refine ⟨_, (hR.1 100 _ hr.1), Nat.le_of_ble_eq_true rfl, rfl, rfl, ?_⟩
        have hR0 := (hR.put (i := 100) hr.1 (px_o 4 [.int ((0 : Int32)), .int (nI (cs_nb σ)), .int (nI (cs_ti σ)), .int (nI (cs_n σ)), .ref (ad 101), .ref (ad 102), .ref (ad 103), .ref (ad 104), .ref (ad 105), .ref (ad 106), .int (fs 1), .int (fs 2), .ref (ad 107), .ref (ad 108), .ref (ad 109), .ref (ad 110), .ref (ad 111), .ref (ad 112), .ref (ad 113), .ref (ad 114), .ref (ad 115), .int (fs 3), .ref (ad 116), .ref (ad 117), .int (fs 4)]))
        have hr0 : Rl ad (rs_th (σ.1, fs, fa, fw) 0) (rp_up (K) (100) (px_o 4 [.int ((0 : Int32)), .int (nI (cs_nb σ)), .int (nI (cs_ti σ)), .int (nI (cs_n σ)), .ref (ad 101), .ref (ad 102), .ref (ad 103), .ref (ad 104), .ref (ad 105), .ref (ad 106), .int (fs 1), .int (fs 2), .ref (ad 107), .ref (ad 108), .ref (ad 109), .ref (ad 110), .ref (ad 111), .ref (ad 112), .ref (ad 113), .ref (ad 114), .ref (ad 115), .int (fs 3), .ref (ad 116), .ref (ad 117), .int (fs 4)])) := hr.sO _ _
        have hK0 : ∀ zz, zz < 100 ∨ 118 ≤ zz → (rp_up (K) (100) (px_o 4 [.int ((0 : Int32)), .int (nI (cs_nb σ)), .int (nI (cs_ti σ)), .int (nI (cs_n σ)), .ref (ad 101), .ref (ad 102), .ref (ad 103), .ref (ad 104), .ref (ad 105), .ref (ad 106), .int (fs 1), .int (fs 2), .ref (ad 107), .ref (ad 108), .ref (ad 109), .ref (ad 110), .ref (ad 111), .ref (ad 112), .ref (ad 113), .ref (ad 114), .ref (ad 115), .int (fs 3), .ref (ad 116), .ref (ad 117), .int (fs 4)])) zz = (K) zz := fun zz hzz => by rw [rp_up_n _ _ (by omega)]
        have hs0 : Sim σ (rs_th (σ.1, fs, fa, fw) 0) := hs
        iterate 5 refine px_go hX ?_
        refine ⟨_, _, (px_up_s _ _ _), rfl, ?_⟩
        iterate 2 refine px_go hX ?_
        refine ⟨_, _, ((px_up_n _ _ (hR.ne (hr.2.1 9 (by decide) (by decide) (by decide)) hr.1 (by decide))).trans hA9), (vp_in_nI (by omega) (by omega)), ?_⟩
        rw [nI_clamp (by omega), w9]
        iterate 4 refine px_go hX ?_
        refine ⟨_, _, (px_up_s _ _ _), rfl, ?_⟩
        iterate 2 refine px_go hX ?_
        refine ⟨_, _, ((px_up_n _ _ (hR.ne (hr.2.1 10 (by decide) (by decide) (by decide)) hr.1 (by decide))).trans hA10), (by rw [show (px_ic 40 * nI b + cs_yf σ b 2) = nI (40 * b + w) from by rw [hw0]; exact ie_40 b w]; exact vp_in_nI (by omega) (by omega)), ?_⟩
        rw [show (px_ic 40 * nI b + cs_yf σ b 2).toNatClampNeg = 40 * b + w from by rw [show (px_ic 40 * nI b + cs_yf σ b 2) = nI (40 * b + w) from by rw [hw0]; exact ie_40 b w]; exact nI_clamp (by omega), v10]
        iterate 3 refine px_go hX ?_
        refine ⟨_, _, (px_up_s _ _ _), rfl, ?_⟩
        iterate 2 refine px_go hX ?_
        refine ⟨_, _, ((px_up_n _ _ (hR.ne (hr.2.1 12 (by decide) (by decide) (by decide)) hr.1 (by decide))).trans hA12), (by rw [show (px_ic 40 * nI b + cs_yf σ b 2) = nI (40 * b + w) from by rw [hw0]; exact ie_40 b w]; exact vp_in_nI (by omega) (by omega)), ?_⟩
        rw [show (px_ic 40 * nI b + cs_yf σ b 2).toNatClampNeg = 40 * b + w from by rw [show (px_ic 40 * nI b + cs_yf σ b 2) = nI (40 * b + w) from by rw [hw0]; exact ie_40 b w]; exact nI_clamp (by omega), v12]
        iterate 3 refine px_go hX ?_
        refine ⟨_, _, (px_up_s _ _ _), rfl, ?_⟩
        iterate 4 refine px_go hX ?_
        refine ⟨fun (c5 : (3 : Int32) ≤ to) => ?_, fun (c5 : ¬ (3 : Int32) ≤ to) => ?_⟩
        · iterate 2 refine px_go hX ?_
          refine ⟨_, _, ((px_up_n _ _ (hR.ne (hr.2.1 4 (by decide) (by decide) (by decide)) hr.1 (by decide))).trans hA4), (vp_in_nI (by omega) (by omega)), ?_⟩
          rw [nI_clamp (by omega)]
          iterate 2 refine px_go hX ?_
          refine ⟨_, _, ((px_up_n _ _ (hR.ne hr.1 (hr.2.1 4 (by decide) (by decide) (by decide)) (by decide))).trans (px_up_s _ _ _)), rfl, ?_⟩
          iterate 3 refine px_go hX ?_
          refine ⟨_, _, ((px_up_n _ _ (hR.ne (hr.2.1 3 (by decide) (by decide) (by decide)) (hr.2.1 4 (by decide) (by decide) (by decide)) (by decide))).trans ((px_up_n _ _ (hR.ne (hr.2.1 3 (by decide) (by decide) (by decide)) hr.1 (by decide))).trans hA3)), (vp_in_nI (by omega) (by omega)), ?_⟩
          rw [nI_clamp (by omega)]
          iterate 3 refine px_go hX ?_
          refine ⟨fun (c6 : ¬ to = (3 : Int32)) => ?_, fun (c6 : to = (3 : Int32)) => ?_⟩
          · iterate 2 refine px_go hX ?_
            refine ⟨_, _, ((px_up_n _ _ (hR.ne hr.1 (hr.2.1 3 (by decide) (by decide) (by decide)) (by decide))).trans ((px_up_n _ _ (hR.ne hr.1 (hr.2.1 4 (by decide) (by decide) (by decide)) (by decide))).trans (px_up_s _ _ _))), rfl, ?_⟩
            iterate 3 refine px_go hX ?_
            refine ⟨_, _, ((px_up_n _ _ (hR.ne (hr.2.1 9 (by decide) (by decide) (by decide)) (hr.2.1 3 (by decide) (by decide) (by decide)) (by decide))).trans ((px_up_n _ _ (hR.ne (hr.2.1 9 (by decide) (by decide) (by decide)) (hr.2.1 4 (by decide) (by decide) (by decide)) (by decide))).trans ((px_up_n _ _ (hR.ne (hr.2.1 9 (by decide) (by decide) (by decide)) hr.1 (by decide))).trans hA9))), (vp_in_nI (by omega) (by omega)), ?_⟩
            rw [nI_clamp (by omega), w9]
            iterate 3 refine px_go hX ?_
            refine ⟨_, _, ((px_up_n _ _ (hR.ne (hr.2.1 9 (by decide) (by decide) (by decide)) (hr.2.1 3 (by decide) (by decide) (by decide)) (by decide))).trans ((px_up_n _ _ (hR.ne (hr.2.1 9 (by decide) (by decide) (by decide)) (hr.2.1 4 (by decide) (by decide) (by decide)) (by decide))).trans ((px_up_n _ _ (hR.ne (hr.2.1 9 (by decide) (by decide) (by decide)) hr.1 (by decide))).trans hA9))), (vp_in_nI (by omega) (by omega)), ?_⟩
            rw [nI_clamp (by omega)]
            iterate 3 refine px_go hX ?_
            refine ⟨_, _, ((px_up_n _ _ (hR.ne hr.1 (hr.2.1 9 (by decide) (by decide) (by decide)) (by decide))).trans ((px_up_n _ _ (hR.ne hr.1 (hr.2.1 3 (by decide) (by decide) (by decide)) (by decide))).trans ((px_up_n _ _ (hR.ne hr.1 (hr.2.1 4 (by decide) (by decide) (by decide)) (by decide))).trans (px_up_s _ _ _)))), rfl, ?_⟩
            iterate 3 refine px_go hX ?_
            refine ⟨_, ((px_up_n _ _ (hR.ne hr.1 (hr.2.1 9 (by decide) (by decide) (by decide)) (by decide))).trans ((px_up_n _ _ (hR.ne hr.1 (hr.2.1 3 (by decide) (by decide) (by decide)) (by decide))).trans ((px_up_n _ _ (hR.ne hr.1 (hr.2.1 4 (by decide) (by decide) (by decide)) (by decide))).trans (px_up_s _ _ _)))), Nat.le_of_ble_eq_true rfl, rfl, rfl, ?_⟩
            iterate 2 refine px_go hX ?_
            refine ⟨_, _, (px_up_s _ _ _), rfl, ?_⟩
            iterate 2 refine px_go hX ?_
            refine ⟨_, _, ((px_up_n _ _ (hR.ne (hr.2.1 8 (by decide) (by decide) (by decide)) hr.1 (by decide))).trans ((px_up_n _ _ (hR.ne (hr.2.1 8 (by decide) (by decide) (by decide)) (hr.2.1 9 (by decide) (by decide) (by decide)) (by decide))).trans ((px_up_n _ _ (hR.ne (hr.2.1 8 (by decide) (by decide) (by decide)) (hr.2.1 3 (by decide) (by decide) (by decide)) (by decide))).trans ((px_up_n _ _ (hR.ne (hr.2.1 8 (by decide) (by decide) (by decide)) (hr.2.1 4 (by decide) (by decide) (by decide)) (by decide))).trans ((px_up_n _ _ (hR.ne (hr.2.1 8 (by decide) (by decide) (by decide)) hr.1 (by decide))).trans hA8))))), (vp_in_nI (by omega) (by omega)), ?_⟩
            rw [nI_clamp (by omega), w8]
            iterate 2 refine px_go hX ?_
            refine ⟨_, _, (px_up_s _ _ _), rfl, ?_⟩
            iterate 2 refine px_go hX ?_
            refine ⟨_, _, ((px_up_n _ _ (hR.ne (hr.2.1 9 (by decide) (by decide) (by decide)) hr.1 (by decide))).trans (px_up_s _ _ _)), (vp_in_nI (by omega) (by omega)), ?_⟩
            rw [nI_clamp (by omega), pk_us]
            iterate 2 refine px_go hX ?_
            have hR1 := (((((hR.put (i := 100) hr.1 (px_o 4 [.int ((0 : Int32)), .int (nI (cs_nb σ)), .int (nI (cs_ti σ)), .int (nI (cs_n σ)), .ref (ad 101), .ref (ad 102), .ref (ad 103), .ref (ad 104), .ref (ad 105), .ref (ad 106), .int (fs 1), .int (fs 2), .ref (ad 107), .ref (ad 108), .ref (ad 109), .ref (ad 110), .ref (ad 111), .ref (ad 112), .ref (ad 113), .ref (ad 114), .ref (ad 115), .int (fs 3), .ref (ad 116), .ref (ad 117), .int (fs 4)])).put (i := 104) ((rp_up_n _ _ (by decide)).trans (hr.2.1 4 (by decide) (by decide) (by decide))) (px_i 16 (upd (fa 4) (j) ((-1 : Int32))))).put (i := 103) ((rp_up_n _ _ (by decide)).trans ((rp_up_n _ _ (by decide)).trans (hr.2.1 3 (by decide) (by decide) (by decide)))) (px_i 16 (upd (fa 3) (j) (to)))).put (i := 109) ((rp_up_n _ _ (by decide)).trans ((rp_up_n _ _ (by decide)).trans ((rp_up_n _ _ (by decide)).trans (hr.2.1 9 (by decide) (by decide) (by decide))))) (px_i 4 (upd (fa 9) (b) ((cs_yf σ b 2) + ((1 : Int32)))))).put (i := 100) ((rp_up_n _ _ (by decide)).trans ((rp_up_n _ _ (by decide)).trans ((rp_up_n _ _ (by decide)).trans (rp_up_s _ _ _)))) (px_o 4 [.int ((0 : Int32)), .int (nI (cs_nb σ)), .int (nI (cs_ti σ)), .int (nI (cs_n σ)), .ref (ad 101), .ref (ad 102), .ref (ad 103), .ref (ad 104), .ref (ad 105), .ref (ad 106), .int (fs 1), .int ((fs 2) + ((1 : Int32))), .ref (ad 107), .ref (ad 108), .ref (ad 109), .ref (ad 110), .ref (ad 111), .ref (ad 112), .ref (ad 113), .ref (ad 114), .ref (ad 115), .int (fs 3), .ref (ad 116), .ref (ad 117), .int (fs 4)]))
            have hr1 : Rl ad ((σ.1, (fun q => match q with | 0 => 0 | 1 => fs 1 | 2 => fs 2 + 1 | 3 => fs 3 | _ => fs 4), (va_up (va_up (va_up fa 4 (upd (fa 4) j ((-1 : Int32)))) 3 (upd (fa 3) j to)) 9 (upd (fa 9) b (cs_yf σ b 2 + 1))), fw)) (rp_up (rp_up (rp_up (rp_up (rp_up (K) (100) (px_o 4 [.int ((0 : Int32)), .int (nI (cs_nb σ)), .int (nI (cs_ti σ)), .int (nI (cs_n σ)), .ref (ad 101), .ref (ad 102), .ref (ad 103), .ref (ad 104), .ref (ad 105), .ref (ad 106), .int (fs 1), .int (fs 2), .ref (ad 107), .ref (ad 108), .ref (ad 109), .ref (ad 110), .ref (ad 111), .ref (ad 112), .ref (ad 113), .ref (ad 114), .ref (ad 115), .int (fs 3), .ref (ad 116), .ref (ad 117), .int (fs 4)])) (104) (px_i 16 (upd (fa 4) (j) ((-1 : Int32))))) (103) (px_i 16 (upd (fa 3) (j) (to)))) (109) (px_i 4 (upd (fa 9) (b) ((cs_yf σ b 2) + ((1 : Int32)))))) (100) (px_o 4 [.int ((0 : Int32)), .int (nI (cs_nb σ)), .int (nI (cs_ti σ)), .int (nI (cs_n σ)), .ref (ad 101), .ref (ad 102), .ref (ad 103), .ref (ad 104), .ref (ad 105), .ref (ad 106), .int (fs 1), .int ((fs 2) + ((1 : Int32))), .ref (ad 107), .ref (ad 108), .ref (ad 109), .ref (ad 110), .ref (ad 111), .ref (ad 112), .ref (ad 113), .ref (ad 114), .ref (ad 115), .int (fs 3), .ref (ad 116), .ref (ad 117), .int (fs 4)])) := ((((hr.sO _ (fun q => match q with | 0 => 0 | 1 => fs 1 | 2 => fs 2 | 3 => fs 3 | _ => fs 4)).sA (q := 4) (by decide) (by decide) (by decide) _).sA (q := 3) (by decide) (by decide) (by decide) _).sA (q := 9) (by decide) (by decide) (by decide) _).sO _ (fun q => match q with | 0 => 0 | 1 => fs 1 | 2 => fs 2 + 1 | 3 => fs 3 | _ => fs 4)
            have hK1 : ∀ zz, zz < 100 ∨ 118 ≤ zz → (rp_up (rp_up (rp_up (rp_up (rp_up (K) (100) (px_o 4 [.int ((0 : Int32)), .int (nI (cs_nb σ)), .int (nI (cs_ti σ)), .int (nI (cs_n σ)), .ref (ad 101), .ref (ad 102), .ref (ad 103), .ref (ad 104), .ref (ad 105), .ref (ad 106), .int (fs 1), .int (fs 2), .ref (ad 107), .ref (ad 108), .ref (ad 109), .ref (ad 110), .ref (ad 111), .ref (ad 112), .ref (ad 113), .ref (ad 114), .ref (ad 115), .int (fs 3), .ref (ad 116), .ref (ad 117), .int (fs 4)])) (104) (px_i 16 (upd (fa 4) (j) ((-1 : Int32))))) (103) (px_i 16 (upd (fa 3) (j) (to)))) (109) (px_i 4 (upd (fa 9) (b) ((cs_yf σ b 2) + ((1 : Int32)))))) (100) (px_o 4 [.int ((0 : Int32)), .int (nI (cs_nb σ)), .int (nI (cs_ti σ)), .int (nI (cs_n σ)), .ref (ad 101), .ref (ad 102), .ref (ad 103), .ref (ad 104), .ref (ad 105), .ref (ad 106), .int (fs 1), .int ((fs 2) + ((1 : Int32))), .ref (ad 107), .ref (ad 108), .ref (ad 109), .ref (ad 110), .ref (ad 111), .ref (ad 112), .ref (ad 113), .ref (ad 114), .ref (ad 115), .int (fs 3), .ref (ad 116), .ref (ad 117), .int (fs 4)])) zz = (K) zz := fun zz hzz => by rw [rp_up_n _ _ (by omega), rp_up_n _ _ (by omega), rp_up_n _ _ (by omega), rp_up_n _ _ (by omega), rp_up_n _ _ (by omega)]
            have ht : cs_wt σ (nI b) to = (-1 : Int32) := if_pos c5
            rw [hq, show of_wk σ (nI b) b j to = (0, cs_lft (cs_w1 σ b j ((-1 : Int32)) to) b, cs_w1 σ b j ((-1 : Int32)) to) from by rw [← ht]; exact if_neg (fun q => c6 q.1)]
            refine ⟨_, _, ⟨_, hR1, hr1, hK1⟩, Sim.w1 hs hb hj c3 hm hw0 hlt hm12 _ _ rfl rfl, rfl, rfl, fun _ => ?_⟩
            show cs_yf σ b 1 - (cs_yf σ b 2 + 1) = cs_lft (cs_w1 σ b j ((-1 : Int32)) to) b
            unfold cs_lft
            rw [show cs_yf (cs_w1 σ b j ((-1 : Int32)) to) b = (fun q => match q with | 0 => cs_yf σ b 0 | 1 => cs_yf σ b 1 | 2 => cs_yf σ b 2 + 1 | _ => cs_yf σ b 3) from va_up_self (cs_yf σ) b _]
            exact (if_neg c3).symm
          · iterate 2 refine px_go hX ?_
            refine ⟨_, _, ((px_up_n _ _ (hR.ne hr.1 (hr.2.1 3 (by decide) (by decide) (by decide)) (by decide))).trans ((px_up_n _ _ (hR.ne hr.1 (hr.2.1 4 (by decide) (by decide) (by decide)) (by decide))).trans (px_up_s _ _ _))), rfl, ?_⟩
            iterate 2 refine px_go hX ?_
            refine ⟨_, _, ((px_up_n _ _ (hR.ne (hr.2.1 6 (by decide) (by decide) (by decide)) (hr.2.1 3 (by decide) (by decide) (by decide)) (by decide))).trans ((px_up_n _ _ (hR.ne (hr.2.1 6 (by decide) (by decide) (by decide)) (hr.2.1 4 (by decide) (by decide) (by decide)) (by decide))).trans ((px_up_n _ _ (hR.ne (hr.2.1 6 (by decide) (by decide) (by decide)) hr.1 (by decide))).trans hA6))), (vp_in_nI (by omega) (by omega)), ?_⟩
            rw [nI_clamp (by omega), h6]
            refine px_go hX ?_
            refine ⟨fun (c7 : cs_yf σ b 3 ≤ 0) => ?_, fun (c7 : ¬ cs_yf σ b 3 ≤ 0) => ?_⟩
            · iterate 2 refine px_go hX ?_
              refine ⟨_, _, ((px_up_n _ _ (hR.ne hr.1 (hr.2.1 3 (by decide) (by decide) (by decide)) (by decide))).trans ((px_up_n _ _ (hR.ne hr.1 (hr.2.1 4 (by decide) (by decide) (by decide)) (by decide))).trans (px_up_s _ _ _))), rfl, ?_⟩
              iterate 3 refine px_go hX ?_
              refine ⟨_, _, ((px_up_n _ _ (hR.ne (hr.2.1 9 (by decide) (by decide) (by decide)) (hr.2.1 3 (by decide) (by decide) (by decide)) (by decide))).trans ((px_up_n _ _ (hR.ne (hr.2.1 9 (by decide) (by decide) (by decide)) (hr.2.1 4 (by decide) (by decide) (by decide)) (by decide))).trans ((px_up_n _ _ (hR.ne (hr.2.1 9 (by decide) (by decide) (by decide)) hr.1 (by decide))).trans hA9))), (vp_in_nI (by omega) (by omega)), ?_⟩
              rw [nI_clamp (by omega), w9]
              iterate 3 refine px_go hX ?_
              refine ⟨_, _, ((px_up_n _ _ (hR.ne (hr.2.1 9 (by decide) (by decide) (by decide)) (hr.2.1 3 (by decide) (by decide) (by decide)) (by decide))).trans ((px_up_n _ _ (hR.ne (hr.2.1 9 (by decide) (by decide) (by decide)) (hr.2.1 4 (by decide) (by decide) (by decide)) (by decide))).trans ((px_up_n _ _ (hR.ne (hr.2.1 9 (by decide) (by decide) (by decide)) hr.1 (by decide))).trans hA9))), (vp_in_nI (by omega) (by omega)), ?_⟩
              rw [nI_clamp (by omega)]
              iterate 3 refine px_go hX ?_
              refine ⟨_, _, ((px_up_n _ _ (hR.ne hr.1 (hr.2.1 9 (by decide) (by decide) (by decide)) (by decide))).trans ((px_up_n _ _ (hR.ne hr.1 (hr.2.1 3 (by decide) (by decide) (by decide)) (by decide))).trans ((px_up_n _ _ (hR.ne hr.1 (hr.2.1 4 (by decide) (by decide) (by decide)) (by decide))).trans (px_up_s _ _ _)))), rfl, ?_⟩
              iterate 3 refine px_go hX ?_
              refine ⟨_, ((px_up_n _ _ (hR.ne hr.1 (hr.2.1 9 (by decide) (by decide) (by decide)) (by decide))).trans ((px_up_n _ _ (hR.ne hr.1 (hr.2.1 3 (by decide) (by decide) (by decide)) (by decide))).trans ((px_up_n _ _ (hR.ne hr.1 (hr.2.1 4 (by decide) (by decide) (by decide)) (by decide))).trans (px_up_s _ _ _)))), Nat.le_of_ble_eq_true rfl, rfl, rfl, ?_⟩
              iterate 2 refine px_go hX ?_
              refine ⟨_, _, (px_up_s _ _ _), rfl, ?_⟩
              iterate 2 refine px_go hX ?_
              refine ⟨_, _, ((px_up_n _ _ (hR.ne (hr.2.1 8 (by decide) (by decide) (by decide)) hr.1 (by decide))).trans ((px_up_n _ _ (hR.ne (hr.2.1 8 (by decide) (by decide) (by decide)) (hr.2.1 9 (by decide) (by decide) (by decide)) (by decide))).trans ((px_up_n _ _ (hR.ne (hr.2.1 8 (by decide) (by decide) (by decide)) (hr.2.1 3 (by decide) (by decide) (by decide)) (by decide))).trans ((px_up_n _ _ (hR.ne (hr.2.1 8 (by decide) (by decide) (by decide)) (hr.2.1 4 (by decide) (by decide) (by decide)) (by decide))).trans ((px_up_n _ _ (hR.ne (hr.2.1 8 (by decide) (by decide) (by decide)) hr.1 (by decide))).trans hA8))))), (vp_in_nI (by omega) (by omega)), ?_⟩
              rw [nI_clamp (by omega), w8]
              iterate 2 refine px_go hX ?_
              refine ⟨_, _, (px_up_s _ _ _), rfl, ?_⟩
              iterate 2 refine px_go hX ?_
              refine ⟨_, _, ((px_up_n _ _ (hR.ne (hr.2.1 9 (by decide) (by decide) (by decide)) hr.1 (by decide))).trans (px_up_s _ _ _)), (vp_in_nI (by omega) (by omega)), ?_⟩
              rw [nI_clamp (by omega), pk_us]
              iterate 2 refine px_go hX ?_
              have hR1 := (((((hR.put (i := 100) hr.1 (px_o 4 [.int ((0 : Int32)), .int (nI (cs_nb σ)), .int (nI (cs_ti σ)), .int (nI (cs_n σ)), .ref (ad 101), .ref (ad 102), .ref (ad 103), .ref (ad 104), .ref (ad 105), .ref (ad 106), .int (fs 1), .int (fs 2), .ref (ad 107), .ref (ad 108), .ref (ad 109), .ref (ad 110), .ref (ad 111), .ref (ad 112), .ref (ad 113), .ref (ad 114), .ref (ad 115), .int (fs 3), .ref (ad 116), .ref (ad 117), .int (fs 4)])).put (i := 104) ((rp_up_n _ _ (by decide)).trans (hr.2.1 4 (by decide) (by decide) (by decide))) (px_i 16 (upd (fa 4) (j) ((-1 : Int32))))).put (i := 103) ((rp_up_n _ _ (by decide)).trans ((rp_up_n _ _ (by decide)).trans (hr.2.1 3 (by decide) (by decide) (by decide)))) (px_i 16 (upd (fa 3) (j) (to)))).put (i := 109) ((rp_up_n _ _ (by decide)).trans ((rp_up_n _ _ (by decide)).trans ((rp_up_n _ _ (by decide)).trans (hr.2.1 9 (by decide) (by decide) (by decide))))) (px_i 4 (upd (fa 9) (b) ((cs_yf σ b 2) + ((1 : Int32)))))).put (i := 100) ((rp_up_n _ _ (by decide)).trans ((rp_up_n _ _ (by decide)).trans ((rp_up_n _ _ (by decide)).trans (rp_up_s _ _ _)))) (px_o 4 [.int ((0 : Int32)), .int (nI (cs_nb σ)), .int (nI (cs_ti σ)), .int (nI (cs_n σ)), .ref (ad 101), .ref (ad 102), .ref (ad 103), .ref (ad 104), .ref (ad 105), .ref (ad 106), .int (fs 1), .int ((fs 2) + ((1 : Int32))), .ref (ad 107), .ref (ad 108), .ref (ad 109), .ref (ad 110), .ref (ad 111), .ref (ad 112), .ref (ad 113), .ref (ad 114), .ref (ad 115), .int (fs 3), .ref (ad 116), .ref (ad 117), .int (fs 4)]))
              have hr1 : Rl ad ((σ.1, (fun q => match q with | 0 => 0 | 1 => fs 1 | 2 => fs 2 + 1 | 3 => fs 3 | _ => fs 4), (va_up (va_up (va_up fa 4 (upd (fa 4) j ((-1 : Int32)))) 3 (upd (fa 3) j to)) 9 (upd (fa 9) b (cs_yf σ b 2 + 1))), fw)) (rp_up (rp_up (rp_up (rp_up (rp_up (K) (100) (px_o 4 [.int ((0 : Int32)), .int (nI (cs_nb σ)), .int (nI (cs_ti σ)), .int (nI (cs_n σ)), .ref (ad 101), .ref (ad 102), .ref (ad 103), .ref (ad 104), .ref (ad 105), .ref (ad 106), .int (fs 1), .int (fs 2), .ref (ad 107), .ref (ad 108), .ref (ad 109), .ref (ad 110), .ref (ad 111), .ref (ad 112), .ref (ad 113), .ref (ad 114), .ref (ad 115), .int (fs 3), .ref (ad 116), .ref (ad 117), .int (fs 4)])) (104) (px_i 16 (upd (fa 4) (j) ((-1 : Int32))))) (103) (px_i 16 (upd (fa 3) (j) (to)))) (109) (px_i 4 (upd (fa 9) (b) ((cs_yf σ b 2) + ((1 : Int32)))))) (100) (px_o 4 [.int ((0 : Int32)), .int (nI (cs_nb σ)), .int (nI (cs_ti σ)), .int (nI (cs_n σ)), .ref (ad 101), .ref (ad 102), .ref (ad 103), .ref (ad 104), .ref (ad 105), .ref (ad 106), .int (fs 1), .int ((fs 2) + ((1 : Int32))), .ref (ad 107), .ref (ad 108), .ref (ad 109), .ref (ad 110), .ref (ad 111), .ref (ad 112), .ref (ad 113), .ref (ad 114), .ref (ad 115), .int (fs 3), .ref (ad 116), .ref (ad 117), .int (fs 4)])) := ((((hr.sO _ (fun q => match q with | 0 => 0 | 1 => fs 1 | 2 => fs 2 | 3 => fs 3 | _ => fs 4)).sA (q := 4) (by decide) (by decide) (by decide) _).sA (q := 3) (by decide) (by decide) (by decide) _).sA (q := 9) (by decide) (by decide) (by decide) _).sO _ (fun q => match q with | 0 => 0 | 1 => fs 1 | 2 => fs 2 + 1 | 3 => fs 3 | _ => fs 4)
              have hK1 : ∀ zz, zz < 100 ∨ 118 ≤ zz → (rp_up (rp_up (rp_up (rp_up (rp_up (K) (100) (px_o 4 [.int ((0 : Int32)), .int (nI (cs_nb σ)), .int (nI (cs_ti σ)), .int (nI (cs_n σ)), .ref (ad 101), .ref (ad 102), .ref (ad 103), .ref (ad 104), .ref (ad 105), .ref (ad 106), .int (fs 1), .int (fs 2), .ref (ad 107), .ref (ad 108), .ref (ad 109), .ref (ad 110), .ref (ad 111), .ref (ad 112), .ref (ad 113), .ref (ad 114), .ref (ad 115), .int (fs 3), .ref (ad 116), .ref (ad 117), .int (fs 4)])) (104) (px_i 16 (upd (fa 4) (j) ((-1 : Int32))))) (103) (px_i 16 (upd (fa 3) (j) (to)))) (109) (px_i 4 (upd (fa 9) (b) ((cs_yf σ b 2) + ((1 : Int32)))))) (100) (px_o 4 [.int ((0 : Int32)), .int (nI (cs_nb σ)), .int (nI (cs_ti σ)), .int (nI (cs_n σ)), .ref (ad 101), .ref (ad 102), .ref (ad 103), .ref (ad 104), .ref (ad 105), .ref (ad 106), .int (fs 1), .int ((fs 2) + ((1 : Int32))), .ref (ad 107), .ref (ad 108), .ref (ad 109), .ref (ad 110), .ref (ad 111), .ref (ad 112), .ref (ad 113), .ref (ad 114), .ref (ad 115), .int (fs 3), .ref (ad 116), .ref (ad 117), .int (fs 4)])) zz = (K) zz := fun zz hzz => by rw [rp_up_n _ _ (by omega), rp_up_n _ _ (by omega), rp_up_n _ _ (by omega), rp_up_n _ _ (by omega), rp_up_n _ _ (by omega)]
              have ht : cs_wt σ (nI b) to = (-1 : Int32) := if_pos c5
              rw [hq, show of_wk σ (nI b) b j to = (0, cs_lft (cs_w1 σ b j ((-1 : Int32)) to) b, cs_w1 σ b j ((-1 : Int32)) to) from by rw [← ht]; exact if_neg (fun q => absurd q.2 (Int32.not_lt.mpr c7))]
              refine ⟨_, _, ⟨_, hR1, hr1, hK1⟩, Sim.w1 hs hb hj c3 hm hw0 hlt hm12 _ _ rfl rfl, rfl, rfl, fun _ => ?_⟩
              show cs_yf σ b 1 - (cs_yf σ b 2 + 1) = cs_lft (cs_w1 σ b j ((-1 : Int32)) to) b
              unfold cs_lft
              rw [show cs_yf (cs_w1 σ b j ((-1 : Int32)) to) b = (fun q => match q with | 0 => cs_yf σ b 0 | 1 => cs_yf σ b 1 | 2 => cs_yf σ b 2 + 1 | _ => cs_yf σ b 3) from va_up_self (cs_yf σ) b _]
              exact (if_neg c3).symm
            · iterate 2 refine px_go hX ?_
              refine ⟨_, _, ((px_up_n _ _ (hR.ne hr.1 (hr.2.1 3 (by decide) (by decide) (by decide)) (by decide))).trans ((px_up_n _ _ (hR.ne hr.1 (hr.2.1 4 (by decide) (by decide) (by decide)) (by decide))).trans (px_up_s _ _ _))), rfl, ?_⟩
              iterate 3 refine px_go hX ?_
              refine ⟨_, _, ((px_up_n _ _ (hR.ne (hr.2.1 6 (by decide) (by decide) (by decide)) (hr.2.1 3 (by decide) (by decide) (by decide)) (by decide))).trans ((px_up_n _ _ (hR.ne (hr.2.1 6 (by decide) (by decide) (by decide)) (hr.2.1 4 (by decide) (by decide) (by decide)) (by decide))).trans ((px_up_n _ _ (hR.ne (hr.2.1 6 (by decide) (by decide) (by decide)) hr.1 (by decide))).trans hA6))), (vp_in_nI (by omega) (by omega)), ?_⟩
              rw [nI_clamp (by omega), h6]
              iterate 3 refine px_go hX ?_
              refine ⟨_, _, ((px_up_n _ _ (hR.ne (hr.2.1 6 (by decide) (by decide) (by decide)) (hr.2.1 3 (by decide) (by decide) (by decide)) (by decide))).trans ((px_up_n _ _ (hR.ne (hr.2.1 6 (by decide) (by decide) (by decide)) (hr.2.1 4 (by decide) (by decide) (by decide)) (by decide))).trans ((px_up_n _ _ (hR.ne (hr.2.1 6 (by decide) (by decide) (by decide)) hr.1 (by decide))).trans hA6))), (vp_in_nI (by omega) (by omega)), ?_⟩
              rw [nI_clamp (by omega)]
              iterate 3 refine px_go hX ?_
              refine ⟨_, _, ((px_up_n _ _ (hR.ne hr.1 (hr.2.1 6 (by decide) (by decide) (by decide)) (by decide))).trans ((px_up_n _ _ (hR.ne hr.1 (hr.2.1 3 (by decide) (by decide) (by decide)) (by decide))).trans ((px_up_n _ _ (hR.ne hr.1 (hr.2.1 4 (by decide) (by decide) (by decide)) (by decide))).trans (px_up_s _ _ _)))), rfl, ?_⟩
              iterate 3 refine px_go hX ?_
              refine ⟨_, ((px_up_n _ _ (hR.ne hr.1 (hr.2.1 6 (by decide) (by decide) (by decide)) (by decide))).trans ((px_up_n _ _ (hR.ne hr.1 (hr.2.1 3 (by decide) (by decide) (by decide)) (by decide))).trans ((px_up_n _ _ (hR.ne hr.1 (hr.2.1 4 (by decide) (by decide) (by decide)) (by decide))).trans (px_up_s _ _ _)))), Nat.le_of_ble_eq_true rfl, rfl, rfl, ?_⟩
              iterate 2 refine px_go hX ?_
              refine ⟨_, _, (px_up_s _ _ _), rfl, ?_⟩
              iterate 3 refine px_go hX ?_
              refine ⟨_, _, ((px_up_n _ _ (hR.ne (hr.2.1 9 (by decide) (by decide) (by decide)) hr.1 (by decide))).trans ((px_up_n _ _ (hR.ne (hr.2.1 9 (by decide) (by decide) (by decide)) (hr.2.1 6 (by decide) (by decide) (by decide)) (by decide))).trans ((px_up_n _ _ (hR.ne (hr.2.1 9 (by decide) (by decide) (by decide)) (hr.2.1 3 (by decide) (by decide) (by decide)) (by decide))).trans ((px_up_n _ _ (hR.ne (hr.2.1 9 (by decide) (by decide) (by decide)) (hr.2.1 4 (by decide) (by decide) (by decide)) (by decide))).trans ((px_up_n _ _ (hR.ne (hr.2.1 9 (by decide) (by decide) (by decide)) hr.1 (by decide))).trans hA9))))), (vp_in_nI (by omega) (by omega)), ?_⟩
              rw [nI_clamp (by omega), w9]
              iterate 3 refine px_go hX ?_
              refine ⟨_, _, ((px_up_n _ _ (hR.ne (hr.2.1 9 (by decide) (by decide) (by decide)) hr.1 (by decide))).trans ((px_up_n _ _ (hR.ne (hr.2.1 9 (by decide) (by decide) (by decide)) (hr.2.1 6 (by decide) (by decide) (by decide)) (by decide))).trans ((px_up_n _ _ (hR.ne (hr.2.1 9 (by decide) (by decide) (by decide)) (hr.2.1 3 (by decide) (by decide) (by decide)) (by decide))).trans ((px_up_n _ _ (hR.ne (hr.2.1 9 (by decide) (by decide) (by decide)) (hr.2.1 4 (by decide) (by decide) (by decide)) (by decide))).trans ((px_up_n _ _ (hR.ne (hr.2.1 9 (by decide) (by decide) (by decide)) hr.1 (by decide))).trans hA9))))), (vp_in_nI (by omega) (by omega)), ?_⟩
              rw [nI_clamp (by omega)]
              iterate 3 refine px_go hX ?_
              refine ⟨_, _, ((px_up_n _ _ (hR.ne hr.1 (hr.2.1 9 (by decide) (by decide) (by decide)) (by decide))).trans (px_up_s _ _ _)), rfl, ?_⟩
              iterate 3 refine px_go hX ?_
              refine ⟨_, ((px_up_n _ _ (hR.ne hr.1 (hr.2.1 9 (by decide) (by decide) (by decide)) (by decide))).trans (px_up_s _ _ _)), Nat.le_of_ble_eq_true rfl, rfl, rfl, ?_⟩
              iterate 2 refine px_go hX ?_
              refine ⟨_, _, (px_up_s _ _ _), rfl, ?_⟩
              iterate 2 refine px_go hX ?_
              refine ⟨_, _, ((px_up_n _ _ (hR.ne (hr.2.1 8 (by decide) (by decide) (by decide)) hr.1 (by decide))).trans ((px_up_n _ _ (hR.ne (hr.2.1 8 (by decide) (by decide) (by decide)) (hr.2.1 9 (by decide) (by decide) (by decide)) (by decide))).trans ((px_up_n _ _ (hR.ne (hr.2.1 8 (by decide) (by decide) (by decide)) hr.1 (by decide))).trans ((px_up_n _ _ (hR.ne (hr.2.1 8 (by decide) (by decide) (by decide)) (hr.2.1 6 (by decide) (by decide) (by decide)) (by decide))).trans ((px_up_n _ _ (hR.ne (hr.2.1 8 (by decide) (by decide) (by decide)) (hr.2.1 3 (by decide) (by decide) (by decide)) (by decide))).trans ((px_up_n _ _ (hR.ne (hr.2.1 8 (by decide) (by decide) (by decide)) (hr.2.1 4 (by decide) (by decide) (by decide)) (by decide))).trans ((px_up_n _ _ (hR.ne (hr.2.1 8 (by decide) (by decide) (by decide)) hr.1 (by decide))).trans hA8))))))), (vp_in_nI (by omega) (by omega)), ?_⟩
              rw [nI_clamp (by omega), w8]
              iterate 2 refine px_go hX ?_
              refine ⟨_, _, (px_up_s _ _ _), rfl, ?_⟩
              iterate 2 refine px_go hX ?_
              refine ⟨_, _, ((px_up_n _ _ (hR.ne (hr.2.1 9 (by decide) (by decide) (by decide)) hr.1 (by decide))).trans (px_up_s _ _ _)), (vp_in_nI (by omega) (by omega)), ?_⟩
              rw [nI_clamp (by omega), pk_us]
              iterate 2 refine px_go hX ?_
              have hR1 := (((((((hR.put (i := 100) hr.1 (px_o 4 [.int ((0 : Int32)), .int (nI (cs_nb σ)), .int (nI (cs_ti σ)), .int (nI (cs_n σ)), .ref (ad 101), .ref (ad 102), .ref (ad 103), .ref (ad 104), .ref (ad 105), .ref (ad 106), .int (fs 1), .int (fs 2), .ref (ad 107), .ref (ad 108), .ref (ad 109), .ref (ad 110), .ref (ad 111), .ref (ad 112), .ref (ad 113), .ref (ad 114), .ref (ad 115), .int (fs 3), .ref (ad 116), .ref (ad 117), .int (fs 4)])).put (i := 104) ((rp_up_n _ _ (by decide)).trans (hr.2.1 4 (by decide) (by decide) (by decide))) (px_i 16 (upd (fa 4) (j) ((-1 : Int32))))).put (i := 103) ((rp_up_n _ _ (by decide)).trans ((rp_up_n _ _ (by decide)).trans (hr.2.1 3 (by decide) (by decide) (by decide)))) (px_i 16 (upd (fa 3) (j) (to)))).put (i := 106) ((rp_up_n _ _ (by decide)).trans ((rp_up_n _ _ (by decide)).trans ((rp_up_n _ _ (by decide)).trans (hr.2.1 6 (by decide) (by decide) (by decide))))) (px_i 4 (upd (fa 6) (b) ((cs_yf σ b 3) - ((1 : Int32)))))).put (i := 100) ((rp_up_n _ _ (by decide)).trans ((rp_up_n _ _ (by decide)).trans ((rp_up_n _ _ (by decide)).trans (rp_up_s _ _ _)))) (px_o 4 [.int ((0 : Int32)), .int (nI (cs_nb σ)), .int (nI (cs_ti σ)), .int (nI (cs_n σ)), .ref (ad 101), .ref (ad 102), .ref (ad 103), .ref (ad 104), .ref (ad 105), .ref (ad 106), .int ((fs 1) + ((1 : Int32))), .int (fs 2), .ref (ad 107), .ref (ad 108), .ref (ad 109), .ref (ad 110), .ref (ad 111), .ref (ad 112), .ref (ad 113), .ref (ad 114), .ref (ad 115), .int (fs 3), .ref (ad 116), .ref (ad 117), .int (fs 4)])).put (i := 109) ((rp_up_n _ _ (by decide)).trans ((rp_up_n _ _ (by decide)).trans ((rp_up_n _ _ (by decide)).trans ((rp_up_n _ _ (by decide)).trans ((rp_up_n _ _ (by decide)).trans (hr.2.1 9 (by decide) (by decide) (by decide))))))) (px_i 4 (upd (fa 9) (b) ((cs_yf σ b 2) + ((1 : Int32)))))).put (i := 100) ((rp_up_n _ _ (by decide)).trans (rp_up_s _ _ _)) (px_o 4 [.int ((0 : Int32)), .int (nI (cs_nb σ)), .int (nI (cs_ti σ)), .int (nI (cs_n σ)), .ref (ad 101), .ref (ad 102), .ref (ad 103), .ref (ad 104), .ref (ad 105), .ref (ad 106), .int ((fs 1) + ((1 : Int32))), .int ((fs 2) + ((1 : Int32))), .ref (ad 107), .ref (ad 108), .ref (ad 109), .ref (ad 110), .ref (ad 111), .ref (ad 112), .ref (ad 113), .ref (ad 114), .ref (ad 115), .int (fs 3), .ref (ad 116), .ref (ad 117), .int (fs 4)]))
              have hr1 : Rl ad ((σ.1, (fun q => match q with | 0 => 0 | 1 => fs 1 + 1 | 2 => fs 2 + 1 | 3 => fs 3 | _ => fs 4), (va_up (va_up (va_up (va_up fa 4 (upd (fa 4) j ((-1 : Int32)))) 3 (upd (fa 3) j to)) 6 (upd (fa 6) b (cs_yf σ b 3 - 1))) 9 (upd (fa 9) b (cs_yf σ b 2 + 1))), fw)) (rp_up (rp_up (rp_up (rp_up (rp_up (rp_up (rp_up (K) (100) (px_o 4 [.int ((0 : Int32)), .int (nI (cs_nb σ)), .int (nI (cs_ti σ)), .int (nI (cs_n σ)), .ref (ad 101), .ref (ad 102), .ref (ad 103), .ref (ad 104), .ref (ad 105), .ref (ad 106), .int (fs 1), .int (fs 2), .ref (ad 107), .ref (ad 108), .ref (ad 109), .ref (ad 110), .ref (ad 111), .ref (ad 112), .ref (ad 113), .ref (ad 114), .ref (ad 115), .int (fs 3), .ref (ad 116), .ref (ad 117), .int (fs 4)])) (104) (px_i 16 (upd (fa 4) (j) ((-1 : Int32))))) (103) (px_i 16 (upd (fa 3) (j) (to)))) (106) (px_i 4 (upd (fa 6) (b) ((cs_yf σ b 3) - ((1 : Int32)))))) (100) (px_o 4 [.int ((0 : Int32)), .int (nI (cs_nb σ)), .int (nI (cs_ti σ)), .int (nI (cs_n σ)), .ref (ad 101), .ref (ad 102), .ref (ad 103), .ref (ad 104), .ref (ad 105), .ref (ad 106), .int ((fs 1) + ((1 : Int32))), .int (fs 2), .ref (ad 107), .ref (ad 108), .ref (ad 109), .ref (ad 110), .ref (ad 111), .ref (ad 112), .ref (ad 113), .ref (ad 114), .ref (ad 115), .int (fs 3), .ref (ad 116), .ref (ad 117), .int (fs 4)])) (109) (px_i 4 (upd (fa 9) (b) ((cs_yf σ b 2) + ((1 : Int32)))))) (100) (px_o 4 [.int ((0 : Int32)), .int (nI (cs_nb σ)), .int (nI (cs_ti σ)), .int (nI (cs_n σ)), .ref (ad 101), .ref (ad 102), .ref (ad 103), .ref (ad 104), .ref (ad 105), .ref (ad 106), .int ((fs 1) + ((1 : Int32))), .int ((fs 2) + ((1 : Int32))), .ref (ad 107), .ref (ad 108), .ref (ad 109), .ref (ad 110), .ref (ad 111), .ref (ad 112), .ref (ad 113), .ref (ad 114), .ref (ad 115), .int (fs 3), .ref (ad 116), .ref (ad 117), .int (fs 4)])) := ((((((hr.sO _ (fun q => match q with | 0 => 0 | 1 => fs 1 | 2 => fs 2 | 3 => fs 3 | _ => fs 4)).sA (q := 4) (by decide) (by decide) (by decide) _).sA (q := 3) (by decide) (by decide) (by decide) _).sA (q := 6) (by decide) (by decide) (by decide) _).sO _ (fun q => match q with | 0 => 0 | 1 => fs 1 + 1 | 2 => fs 2 | 3 => fs 3 | _ => fs 4)).sA (q := 9) (by decide) (by decide) (by decide) _).sO _ (fun q => match q with | 0 => 0 | 1 => fs 1 + 1 | 2 => fs 2 + 1 | 3 => fs 3 | _ => fs 4)
              have hK1 : ∀ zz, zz < 100 ∨ 118 ≤ zz → (rp_up (rp_up (rp_up (rp_up (rp_up (rp_up (rp_up (K) (100) (px_o 4 [.int ((0 : Int32)), .int (nI (cs_nb σ)), .int (nI (cs_ti σ)), .int (nI (cs_n σ)), .ref (ad 101), .ref (ad 102), .ref (ad 103), .ref (ad 104), .ref (ad 105), .ref (ad 106), .int (fs 1), .int (fs 2), .ref (ad 107), .ref (ad 108), .ref (ad 109), .ref (ad 110), .ref (ad 111), .ref (ad 112), .ref (ad 113), .ref (ad 114), .ref (ad 115), .int (fs 3), .ref (ad 116), .ref (ad 117), .int (fs 4)])) (104) (px_i 16 (upd (fa 4) (j) ((-1 : Int32))))) (103) (px_i 16 (upd (fa 3) (j) (to)))) (106) (px_i 4 (upd (fa 6) (b) ((cs_yf σ b 3) - ((1 : Int32)))))) (100) (px_o 4 [.int ((0 : Int32)), .int (nI (cs_nb σ)), .int (nI (cs_ti σ)), .int (nI (cs_n σ)), .ref (ad 101), .ref (ad 102), .ref (ad 103), .ref (ad 104), .ref (ad 105), .ref (ad 106), .int ((fs 1) + ((1 : Int32))), .int (fs 2), .ref (ad 107), .ref (ad 108), .ref (ad 109), .ref (ad 110), .ref (ad 111), .ref (ad 112), .ref (ad 113), .ref (ad 114), .ref (ad 115), .int (fs 3), .ref (ad 116), .ref (ad 117), .int (fs 4)])) (109) (px_i 4 (upd (fa 9) (b) ((cs_yf σ b 2) + ((1 : Int32)))))) (100) (px_o 4 [.int ((0 : Int32)), .int (nI (cs_nb σ)), .int (nI (cs_ti σ)), .int (nI (cs_n σ)), .ref (ad 101), .ref (ad 102), .ref (ad 103), .ref (ad 104), .ref (ad 105), .ref (ad 106), .int ((fs 1) + ((1 : Int32))), .int ((fs 2) + ((1 : Int32))), .ref (ad 107), .ref (ad 108), .ref (ad 109), .ref (ad 110), .ref (ad 111), .ref (ad 112), .ref (ad 113), .ref (ad 114), .ref (ad 115), .int (fs 3), .ref (ad 116), .ref (ad 117), .int (fs 4)])) zz = (K) zz := fun zz hzz => by rw [rp_up_n _ _ (by omega), rp_up_n _ _ (by omega), rp_up_n _ _ (by omega), rp_up_n _ _ (by omega), rp_up_n _ _ (by omega), rp_up_n _ _ (by omega), rp_up_n _ _ (by omega)]
              have ht : cs_wt σ (nI b) to = (-1 : Int32) := if_pos c5
              rw [hq, show of_wk σ (nI b) b j to = (0, cs_lft (cs_w2 σ b j ((-1 : Int32)) to) b, cs_w2 σ b j ((-1 : Int32)) to) from by rw [← ht]; exact if_pos ⟨c6, Int32.not_le.mp c7⟩]
              refine ⟨_, _, ⟨_, hR1, hr1, hK1⟩, Sim.w2 hs hb hj c3 hm hw0 hlt hm12 _ _ rfl rfl, rfl, rfl, fun _ => ?_⟩
              show cs_yf σ b 1 - (cs_yf σ b 2 + 1) = cs_lft (cs_w2 σ b j ((-1 : Int32)) to) b
              unfold cs_lft
              rw [show cs_yf (cs_w2 σ b j ((-1 : Int32)) to) b = (fun q => match q with | 0 => cs_yf σ b 0 | 1 => cs_yf σ b 1 | 2 => cs_yf σ b 2 + 1 | _ => cs_yf σ b 3 - 1) from va_up_self (cs_yf (cs_w1 σ b j ((-1 : Int32)) to)) b _]
              exact (if_neg c3).symm
        · iterate 4 refine px_go hX ?_
          refine ⟨_, (px_up_s _ _ _), 0, 0, _, Nat.le_of_ble_eq_true rfl, Nat.le_of_ble_eq_true rfl, Nat.le_of_ble_eq_true rfl, rr_height hR0 hr0 hs0 hn _ _, ?_⟩
          rintro _ C ⟨rfl, rfl⟩
          iterate 2 refine px_go hX ?_
          refine ⟨_, _, ((px_up_n _ _ (hR.ne (hr.2.1 4 (by decide) (by decide) (by decide)) hr.1 (by decide))).trans hA4), (vp_in_nI (by omega) (by omega)), ?_⟩
          rw [nI_clamp (by omega)]
          iterate 2 refine px_go hX ?_
          refine ⟨_, _, ((px_up_n _ _ (hR.ne hr.1 (hr.2.1 4 (by decide) (by decide) (by decide)) (by decide))).trans (px_up_s _ _ _)), rfl, ?_⟩
          iterate 3 refine px_go hX ?_
          refine ⟨_, _, ((px_up_n _ _ (hR.ne (hr.2.1 3 (by decide) (by decide) (by decide)) (hr.2.1 4 (by decide) (by decide) (by decide)) (by decide))).trans ((px_up_n _ _ (hR.ne (hr.2.1 3 (by decide) (by decide) (by decide)) hr.1 (by decide))).trans hA3)), (vp_in_nI (by omega) (by omega)), ?_⟩
          rw [nI_clamp (by omega)]
          iterate 3 refine px_go hX ?_
          refine ⟨fun (c8 : ¬ to = (3 : Int32)) => ?_, fun (c8 : to = (3 : Int32)) => ?_⟩
          · iterate 2 refine px_go hX ?_
            refine ⟨_, _, ((px_up_n _ _ (hR.ne hr.1 (hr.2.1 3 (by decide) (by decide) (by decide)) (by decide))).trans ((px_up_n _ _ (hR.ne hr.1 (hr.2.1 4 (by decide) (by decide) (by decide)) (by decide))).trans (px_up_s _ _ _))), rfl, ?_⟩
            iterate 3 refine px_go hX ?_
            refine ⟨_, _, ((px_up_n _ _ (hR.ne (hr.2.1 9 (by decide) (by decide) (by decide)) (hr.2.1 3 (by decide) (by decide) (by decide)) (by decide))).trans ((px_up_n _ _ (hR.ne (hr.2.1 9 (by decide) (by decide) (by decide)) (hr.2.1 4 (by decide) (by decide) (by decide)) (by decide))).trans ((px_up_n _ _ (hR.ne (hr.2.1 9 (by decide) (by decide) (by decide)) hr.1 (by decide))).trans hA9))), (vp_in_nI (by omega) (by omega)), ?_⟩
            rw [nI_clamp (by omega), w9]
            iterate 3 refine px_go hX ?_
            refine ⟨_, _, ((px_up_n _ _ (hR.ne (hr.2.1 9 (by decide) (by decide) (by decide)) (hr.2.1 3 (by decide) (by decide) (by decide)) (by decide))).trans ((px_up_n _ _ (hR.ne (hr.2.1 9 (by decide) (by decide) (by decide)) (hr.2.1 4 (by decide) (by decide) (by decide)) (by decide))).trans ((px_up_n _ _ (hR.ne (hr.2.1 9 (by decide) (by decide) (by decide)) hr.1 (by decide))).trans hA9))), (vp_in_nI (by omega) (by omega)), ?_⟩
            rw [nI_clamp (by omega)]
            iterate 3 refine px_go hX ?_
            refine ⟨_, _, ((px_up_n _ _ (hR.ne hr.1 (hr.2.1 9 (by decide) (by decide) (by decide)) (by decide))).trans ((px_up_n _ _ (hR.ne hr.1 (hr.2.1 3 (by decide) (by decide) (by decide)) (by decide))).trans ((px_up_n _ _ (hR.ne hr.1 (hr.2.1 4 (by decide) (by decide) (by decide)) (by decide))).trans (px_up_s _ _ _)))), rfl, ?_⟩
            iterate 3 refine px_go hX ?_
            refine ⟨_, ((px_up_n _ _ (hR.ne hr.1 (hr.2.1 9 (by decide) (by decide) (by decide)) (by decide))).trans ((px_up_n _ _ (hR.ne hr.1 (hr.2.1 3 (by decide) (by decide) (by decide)) (by decide))).trans ((px_up_n _ _ (hR.ne hr.1 (hr.2.1 4 (by decide) (by decide) (by decide)) (by decide))).trans (px_up_s _ _ _)))), Nat.le_of_ble_eq_true rfl, rfl, rfl, ?_⟩
            iterate 2 refine px_go hX ?_
            refine ⟨_, _, (px_up_s _ _ _), rfl, ?_⟩
            iterate 2 refine px_go hX ?_
            refine ⟨_, _, ((px_up_n _ _ (hR.ne (hr.2.1 8 (by decide) (by decide) (by decide)) hr.1 (by decide))).trans ((px_up_n _ _ (hR.ne (hr.2.1 8 (by decide) (by decide) (by decide)) (hr.2.1 9 (by decide) (by decide) (by decide)) (by decide))).trans ((px_up_n _ _ (hR.ne (hr.2.1 8 (by decide) (by decide) (by decide)) (hr.2.1 3 (by decide) (by decide) (by decide)) (by decide))).trans ((px_up_n _ _ (hR.ne (hr.2.1 8 (by decide) (by decide) (by decide)) (hr.2.1 4 (by decide) (by decide) (by decide)) (by decide))).trans ((px_up_n _ _ (hR.ne (hr.2.1 8 (by decide) (by decide) (by decide)) hr.1 (by decide))).trans hA8))))), (vp_in_nI (by omega) (by omega)), ?_⟩
            rw [nI_clamp (by omega), w8]
            iterate 2 refine px_go hX ?_
            refine ⟨_, _, (px_up_s _ _ _), rfl, ?_⟩
            iterate 2 refine px_go hX ?_
            refine ⟨_, _, ((px_up_n _ _ (hR.ne (hr.2.1 9 (by decide) (by decide) (by decide)) hr.1 (by decide))).trans (px_up_s _ _ _)), (vp_in_nI (by omega) (by omega)), ?_⟩
            rw [nI_clamp (by omega), pk_us]
            iterate 2 refine px_go hX ?_
            have hR1 := (((((hR.put (i := 100) hr.1 (px_o 4 [.int ((0 : Int32)), .int (nI (cs_nb σ)), .int (nI (cs_ti σ)), .int (nI (cs_n σ)), .ref (ad 101), .ref (ad 102), .ref (ad 103), .ref (ad 104), .ref (ad 105), .ref (ad 106), .int (fs 1), .int (fs 2), .ref (ad 107), .ref (ad 108), .ref (ad 109), .ref (ad 110), .ref (ad 111), .ref (ad 112), .ref (ad 113), .ref (ad 114), .ref (ad 115), .int (fs 3), .ref (ad 116), .ref (ad 117), .int (fs 4)])).put (i := 104) ((rp_up_n _ _ (by decide)).trans (hr.2.1 4 (by decide) (by decide) (by decide))) (px_i 16 (upd (fa 4) (j) (cs_hgt σ (nI b) to)))).put (i := 103) ((rp_up_n _ _ (by decide)).trans ((rp_up_n _ _ (by decide)).trans (hr.2.1 3 (by decide) (by decide) (by decide)))) (px_i 16 (upd (fa 3) (j) (to)))).put (i := 109) ((rp_up_n _ _ (by decide)).trans ((rp_up_n _ _ (by decide)).trans ((rp_up_n _ _ (by decide)).trans (hr.2.1 9 (by decide) (by decide) (by decide))))) (px_i 4 (upd (fa 9) (b) ((cs_yf σ b 2) + ((1 : Int32)))))).put (i := 100) ((rp_up_n _ _ (by decide)).trans ((rp_up_n _ _ (by decide)).trans ((rp_up_n _ _ (by decide)).trans (rp_up_s _ _ _)))) (px_o 4 [.int ((0 : Int32)), .int (nI (cs_nb σ)), .int (nI (cs_ti σ)), .int (nI (cs_n σ)), .ref (ad 101), .ref (ad 102), .ref (ad 103), .ref (ad 104), .ref (ad 105), .ref (ad 106), .int (fs 1), .int ((fs 2) + ((1 : Int32))), .ref (ad 107), .ref (ad 108), .ref (ad 109), .ref (ad 110), .ref (ad 111), .ref (ad 112), .ref (ad 113), .ref (ad 114), .ref (ad 115), .int (fs 3), .ref (ad 116), .ref (ad 117), .int (fs 4)]))
            have hr1 : Rl ad ((σ.1, (fun q => match q with | 0 => 0 | 1 => fs 1 | 2 => fs 2 + 1 | 3 => fs 3 | _ => fs 4), (va_up (va_up (va_up fa 4 (upd (fa 4) j (cs_hgt σ (nI b) to))) 3 (upd (fa 3) j to)) 9 (upd (fa 9) b (cs_yf σ b 2 + 1))), fw)) (rp_up (rp_up (rp_up (rp_up (rp_up (K) (100) (px_o 4 [.int ((0 : Int32)), .int (nI (cs_nb σ)), .int (nI (cs_ti σ)), .int (nI (cs_n σ)), .ref (ad 101), .ref (ad 102), .ref (ad 103), .ref (ad 104), .ref (ad 105), .ref (ad 106), .int (fs 1), .int (fs 2), .ref (ad 107), .ref (ad 108), .ref (ad 109), .ref (ad 110), .ref (ad 111), .ref (ad 112), .ref (ad 113), .ref (ad 114), .ref (ad 115), .int (fs 3), .ref (ad 116), .ref (ad 117), .int (fs 4)])) (104) (px_i 16 (upd (fa 4) (j) (cs_hgt σ (nI b) to)))) (103) (px_i 16 (upd (fa 3) (j) (to)))) (109) (px_i 4 (upd (fa 9) (b) ((cs_yf σ b 2) + ((1 : Int32)))))) (100) (px_o 4 [.int ((0 : Int32)), .int (nI (cs_nb σ)), .int (nI (cs_ti σ)), .int (nI (cs_n σ)), .ref (ad 101), .ref (ad 102), .ref (ad 103), .ref (ad 104), .ref (ad 105), .ref (ad 106), .int (fs 1), .int ((fs 2) + ((1 : Int32))), .ref (ad 107), .ref (ad 108), .ref (ad 109), .ref (ad 110), .ref (ad 111), .ref (ad 112), .ref (ad 113), .ref (ad 114), .ref (ad 115), .int (fs 3), .ref (ad 116), .ref (ad 117), .int (fs 4)])) := ((((hr.sO _ (fun q => match q with | 0 => 0 | 1 => fs 1 | 2 => fs 2 | 3 => fs 3 | _ => fs 4)).sA (q := 4) (by decide) (by decide) (by decide) _).sA (q := 3) (by decide) (by decide) (by decide) _).sA (q := 9) (by decide) (by decide) (by decide) _).sO _ (fun q => match q with | 0 => 0 | 1 => fs 1 | 2 => fs 2 + 1 | 3 => fs 3 | _ => fs 4)
            have hK1 : ∀ zz, zz < 100 ∨ 118 ≤ zz → (rp_up (rp_up (rp_up (rp_up (rp_up (K) (100) (px_o 4 [.int ((0 : Int32)), .int (nI (cs_nb σ)), .int (nI (cs_ti σ)), .int (nI (cs_n σ)), .ref (ad 101), .ref (ad 102), .ref (ad 103), .ref (ad 104), .ref (ad 105), .ref (ad 106), .int (fs 1), .int (fs 2), .ref (ad 107), .ref (ad 108), .ref (ad 109), .ref (ad 110), .ref (ad 111), .ref (ad 112), .ref (ad 113), .ref (ad 114), .ref (ad 115), .int (fs 3), .ref (ad 116), .ref (ad 117), .int (fs 4)])) (104) (px_i 16 (upd (fa 4) (j) (cs_hgt σ (nI b) to)))) (103) (px_i 16 (upd (fa 3) (j) (to)))) (109) (px_i 4 (upd (fa 9) (b) ((cs_yf σ b 2) + ((1 : Int32)))))) (100) (px_o 4 [.int ((0 : Int32)), .int (nI (cs_nb σ)), .int (nI (cs_ti σ)), .int (nI (cs_n σ)), .ref (ad 101), .ref (ad 102), .ref (ad 103), .ref (ad 104), .ref (ad 105), .ref (ad 106), .int (fs 1), .int ((fs 2) + ((1 : Int32))), .ref (ad 107), .ref (ad 108), .ref (ad 109), .ref (ad 110), .ref (ad 111), .ref (ad 112), .ref (ad 113), .ref (ad 114), .ref (ad 115), .int (fs 3), .ref (ad 116), .ref (ad 117), .int (fs 4)])) zz = (K) zz := fun zz hzz => by rw [rp_up_n _ _ (by omega), rp_up_n _ _ (by omega), rp_up_n _ _ (by omega), rp_up_n _ _ (by omega), rp_up_n _ _ (by omega)]
            have ht : cs_wt σ (nI b) to = cs_hgt σ (nI b) to := if_neg c5
            rw [hq, show of_wk σ (nI b) b j to = (0, cs_lft (cs_w1 σ b j (cs_hgt σ (nI b) to) to) b, cs_w1 σ b j (cs_hgt σ (nI b) to) to) from by rw [← ht]; exact if_neg (fun q => c8 q.1)]
            refine ⟨_, _, ⟨_, hR1, hr1, hK1⟩, Sim.w1 hs hb hj c3 hm hw0 hlt hm12 _ _ rfl rfl, rfl, rfl, fun _ => ?_⟩
            show cs_yf σ b 1 - (cs_yf σ b 2 + 1) = cs_lft (cs_w1 σ b j (cs_hgt σ (nI b) to) to) b
            unfold cs_lft
            rw [show cs_yf (cs_w1 σ b j (cs_hgt σ (nI b) to) to) b = (fun q => match q with | 0 => cs_yf σ b 0 | 1 => cs_yf σ b 1 | 2 => cs_yf σ b 2 + 1 | _ => cs_yf σ b 3) from va_up_self (cs_yf σ) b _]
            exact (if_neg c3).symm
          · iterate 2 refine px_go hX ?_
            refine ⟨_, _, ((px_up_n _ _ (hR.ne hr.1 (hr.2.1 3 (by decide) (by decide) (by decide)) (by decide))).trans ((px_up_n _ _ (hR.ne hr.1 (hr.2.1 4 (by decide) (by decide) (by decide)) (by decide))).trans (px_up_s _ _ _))), rfl, ?_⟩
            iterate 2 refine px_go hX ?_
            refine ⟨_, _, ((px_up_n _ _ (hR.ne (hr.2.1 6 (by decide) (by decide) (by decide)) (hr.2.1 3 (by decide) (by decide) (by decide)) (by decide))).trans ((px_up_n _ _ (hR.ne (hr.2.1 6 (by decide) (by decide) (by decide)) (hr.2.1 4 (by decide) (by decide) (by decide)) (by decide))).trans ((px_up_n _ _ (hR.ne (hr.2.1 6 (by decide) (by decide) (by decide)) hr.1 (by decide))).trans hA6))), (vp_in_nI (by omega) (by omega)), ?_⟩
            rw [nI_clamp (by omega), h6]
            refine px_go hX ?_
            refine ⟨fun (c9 : cs_yf σ b 3 ≤ 0) => ?_, fun (c9 : ¬ cs_yf σ b 3 ≤ 0) => ?_⟩
            · iterate 2 refine px_go hX ?_
              refine ⟨_, _, ((px_up_n _ _ (hR.ne hr.1 (hr.2.1 3 (by decide) (by decide) (by decide)) (by decide))).trans ((px_up_n _ _ (hR.ne hr.1 (hr.2.1 4 (by decide) (by decide) (by decide)) (by decide))).trans (px_up_s _ _ _))), rfl, ?_⟩
              iterate 3 refine px_go hX ?_
              refine ⟨_, _, ((px_up_n _ _ (hR.ne (hr.2.1 9 (by decide) (by decide) (by decide)) (hr.2.1 3 (by decide) (by decide) (by decide)) (by decide))).trans ((px_up_n _ _ (hR.ne (hr.2.1 9 (by decide) (by decide) (by decide)) (hr.2.1 4 (by decide) (by decide) (by decide)) (by decide))).trans ((px_up_n _ _ (hR.ne (hr.2.1 9 (by decide) (by decide) (by decide)) hr.1 (by decide))).trans hA9))), (vp_in_nI (by omega) (by omega)), ?_⟩
              rw [nI_clamp (by omega), w9]
              iterate 3 refine px_go hX ?_
              refine ⟨_, _, ((px_up_n _ _ (hR.ne (hr.2.1 9 (by decide) (by decide) (by decide)) (hr.2.1 3 (by decide) (by decide) (by decide)) (by decide))).trans ((px_up_n _ _ (hR.ne (hr.2.1 9 (by decide) (by decide) (by decide)) (hr.2.1 4 (by decide) (by decide) (by decide)) (by decide))).trans ((px_up_n _ _ (hR.ne (hr.2.1 9 (by decide) (by decide) (by decide)) hr.1 (by decide))).trans hA9))), (vp_in_nI (by omega) (by omega)), ?_⟩
              rw [nI_clamp (by omega)]
              iterate 3 refine px_go hX ?_
              refine ⟨_, _, ((px_up_n _ _ (hR.ne hr.1 (hr.2.1 9 (by decide) (by decide) (by decide)) (by decide))).trans ((px_up_n _ _ (hR.ne hr.1 (hr.2.1 3 (by decide) (by decide) (by decide)) (by decide))).trans ((px_up_n _ _ (hR.ne hr.1 (hr.2.1 4 (by decide) (by decide) (by decide)) (by decide))).trans (px_up_s _ _ _)))), rfl, ?_⟩
              iterate 3 refine px_go hX ?_
              refine ⟨_, ((px_up_n _ _ (hR.ne hr.1 (hr.2.1 9 (by decide) (by decide) (by decide)) (by decide))).trans ((px_up_n _ _ (hR.ne hr.1 (hr.2.1 3 (by decide) (by decide) (by decide)) (by decide))).trans ((px_up_n _ _ (hR.ne hr.1 (hr.2.1 4 (by decide) (by decide) (by decide)) (by decide))).trans (px_up_s _ _ _)))), Nat.le_of_ble_eq_true rfl, rfl, rfl, ?_⟩
              iterate 2 refine px_go hX ?_
              refine ⟨_, _, (px_up_s _ _ _), rfl, ?_⟩
              iterate 2 refine px_go hX ?_
              refine ⟨_, _, ((px_up_n _ _ (hR.ne (hr.2.1 8 (by decide) (by decide) (by decide)) hr.1 (by decide))).trans ((px_up_n _ _ (hR.ne (hr.2.1 8 (by decide) (by decide) (by decide)) (hr.2.1 9 (by decide) (by decide) (by decide)) (by decide))).trans ((px_up_n _ _ (hR.ne (hr.2.1 8 (by decide) (by decide) (by decide)) (hr.2.1 3 (by decide) (by decide) (by decide)) (by decide))).trans ((px_up_n _ _ (hR.ne (hr.2.1 8 (by decide) (by decide) (by decide)) (hr.2.1 4 (by decide) (by decide) (by decide)) (by decide))).trans ((px_up_n _ _ (hR.ne (hr.2.1 8 (by decide) (by decide) (by decide)) hr.1 (by decide))).trans hA8))))), (vp_in_nI (by omega) (by omega)), ?_⟩
              rw [nI_clamp (by omega), w8]
              iterate 2 refine px_go hX ?_
              refine ⟨_, _, (px_up_s _ _ _), rfl, ?_⟩
              iterate 2 refine px_go hX ?_
              refine ⟨_, _, ((px_up_n _ _ (hR.ne (hr.2.1 9 (by decide) (by decide) (by decide)) hr.1 (by decide))).trans (px_up_s _ _ _)), (vp_in_nI (by omega) (by omega)), ?_⟩
              rw [nI_clamp (by omega), pk_us]
              iterate 2 refine px_go hX ?_
              have hR1 := (((((hR.put (i := 100) hr.1 (px_o 4 [.int ((0 : Int32)), .int (nI (cs_nb σ)), .int (nI (cs_ti σ)), .int (nI (cs_n σ)), .ref (ad 101), .ref (ad 102), .ref (ad 103), .ref (ad 104), .ref (ad 105), .ref (ad 106), .int (fs 1), .int (fs 2), .ref (ad 107), .ref (ad 108), .ref (ad 109), .ref (ad 110), .ref (ad 111), .ref (ad 112), .ref (ad 113), .ref (ad 114), .ref (ad 115), .int (fs 3), .ref (ad 116), .ref (ad 117), .int (fs 4)])).put (i := 104) ((rp_up_n _ _ (by decide)).trans (hr.2.1 4 (by decide) (by decide) (by decide))) (px_i 16 (upd (fa 4) (j) (cs_hgt σ (nI b) to)))).put (i := 103) ((rp_up_n _ _ (by decide)).trans ((rp_up_n _ _ (by decide)).trans (hr.2.1 3 (by decide) (by decide) (by decide)))) (px_i 16 (upd (fa 3) (j) (to)))).put (i := 109) ((rp_up_n _ _ (by decide)).trans ((rp_up_n _ _ (by decide)).trans ((rp_up_n _ _ (by decide)).trans (hr.2.1 9 (by decide) (by decide) (by decide))))) (px_i 4 (upd (fa 9) (b) ((cs_yf σ b 2) + ((1 : Int32)))))).put (i := 100) ((rp_up_n _ _ (by decide)).trans ((rp_up_n _ _ (by decide)).trans ((rp_up_n _ _ (by decide)).trans (rp_up_s _ _ _)))) (px_o 4 [.int ((0 : Int32)), .int (nI (cs_nb σ)), .int (nI (cs_ti σ)), .int (nI (cs_n σ)), .ref (ad 101), .ref (ad 102), .ref (ad 103), .ref (ad 104), .ref (ad 105), .ref (ad 106), .int (fs 1), .int ((fs 2) + ((1 : Int32))), .ref (ad 107), .ref (ad 108), .ref (ad 109), .ref (ad 110), .ref (ad 111), .ref (ad 112), .ref (ad 113), .ref (ad 114), .ref (ad 115), .int (fs 3), .ref (ad 116), .ref (ad 117), .int (fs 4)]))
              have hr1 : Rl ad ((σ.1, (fun q => match q with | 0 => 0 | 1 => fs 1 | 2 => fs 2 + 1 | 3 => fs 3 | _ => fs 4), (va_up (va_up (va_up fa 4 (upd (fa 4) j (cs_hgt σ (nI b) to))) 3 (upd (fa 3) j to)) 9 (upd (fa 9) b (cs_yf σ b 2 + 1))), fw)) (rp_up (rp_up (rp_up (rp_up (rp_up (K) (100) (px_o 4 [.int ((0 : Int32)), .int (nI (cs_nb σ)), .int (nI (cs_ti σ)), .int (nI (cs_n σ)), .ref (ad 101), .ref (ad 102), .ref (ad 103), .ref (ad 104), .ref (ad 105), .ref (ad 106), .int (fs 1), .int (fs 2), .ref (ad 107), .ref (ad 108), .ref (ad 109), .ref (ad 110), .ref (ad 111), .ref (ad 112), .ref (ad 113), .ref (ad 114), .ref (ad 115), .int (fs 3), .ref (ad 116), .ref (ad 117), .int (fs 4)])) (104) (px_i 16 (upd (fa 4) (j) (cs_hgt σ (nI b) to)))) (103) (px_i 16 (upd (fa 3) (j) (to)))) (109) (px_i 4 (upd (fa 9) (b) ((cs_yf σ b 2) + ((1 : Int32)))))) (100) (px_o 4 [.int ((0 : Int32)), .int (nI (cs_nb σ)), .int (nI (cs_ti σ)), .int (nI (cs_n σ)), .ref (ad 101), .ref (ad 102), .ref (ad 103), .ref (ad 104), .ref (ad 105), .ref (ad 106), .int (fs 1), .int ((fs 2) + ((1 : Int32))), .ref (ad 107), .ref (ad 108), .ref (ad 109), .ref (ad 110), .ref (ad 111), .ref (ad 112), .ref (ad 113), .ref (ad 114), .ref (ad 115), .int (fs 3), .ref (ad 116), .ref (ad 117), .int (fs 4)])) := ((((hr.sO _ (fun q => match q with | 0 => 0 | 1 => fs 1 | 2 => fs 2 | 3 => fs 3 | _ => fs 4)).sA (q := 4) (by decide) (by decide) (by decide) _).sA (q := 3) (by decide) (by decide) (by decide) _).sA (q := 9) (by decide) (by decide) (by decide) _).sO _ (fun q => match q with | 0 => 0 | 1 => fs 1 | 2 => fs 2 + 1 | 3 => fs 3 | _ => fs 4)
              have hK1 : ∀ zz, zz < 100 ∨ 118 ≤ zz → (rp_up (rp_up (rp_up (rp_up (rp_up (K) (100) (px_o 4 [.int ((0 : Int32)), .int (nI (cs_nb σ)), .int (nI (cs_ti σ)), .int (nI (cs_n σ)), .ref (ad 101), .ref (ad 102), .ref (ad 103), .ref (ad 104), .ref (ad 105), .ref (ad 106), .int (fs 1), .int (fs 2), .ref (ad 107), .ref (ad 108), .ref (ad 109), .ref (ad 110), .ref (ad 111), .ref (ad 112), .ref (ad 113), .ref (ad 114), .ref (ad 115), .int (fs 3), .ref (ad 116), .ref (ad 117), .int (fs 4)])) (104) (px_i 16 (upd (fa 4) (j) (cs_hgt σ (nI b) to)))) (103) (px_i 16 (upd (fa 3) (j) (to)))) (109) (px_i 4 (upd (fa 9) (b) ((cs_yf σ b 2) + ((1 : Int32)))))) (100) (px_o 4 [.int ((0 : Int32)), .int (nI (cs_nb σ)), .int (nI (cs_ti σ)), .int (nI (cs_n σ)), .ref (ad 101), .ref (ad 102), .ref (ad 103), .ref (ad 104), .ref (ad 105), .ref (ad 106), .int (fs 1), .int ((fs 2) + ((1 : Int32))), .ref (ad 107), .ref (ad 108), .ref (ad 109), .ref (ad 110), .ref (ad 111), .ref (ad 112), .ref (ad 113), .ref (ad 114), .ref (ad 115), .int (fs 3), .ref (ad 116), .ref (ad 117), .int (fs 4)])) zz = (K) zz := fun zz hzz => by rw [rp_up_n _ _ (by omega), rp_up_n _ _ (by omega), rp_up_n _ _ (by omega), rp_up_n _ _ (by omega), rp_up_n _ _ (by omega)]
              have ht : cs_wt σ (nI b) to = cs_hgt σ (nI b) to := if_neg c5
              rw [hq, show of_wk σ (nI b) b j to = (0, cs_lft (cs_w1 σ b j (cs_hgt σ (nI b) to) to) b, cs_w1 σ b j (cs_hgt σ (nI b) to) to) from by rw [← ht]; exact if_neg (fun q => absurd q.2 (Int32.not_lt.mpr c9))]
              refine ⟨_, _, ⟨_, hR1, hr1, hK1⟩, Sim.w1 hs hb hj c3 hm hw0 hlt hm12 _ _ rfl rfl, rfl, rfl, fun _ => ?_⟩
              show cs_yf σ b 1 - (cs_yf σ b 2 + 1) = cs_lft (cs_w1 σ b j (cs_hgt σ (nI b) to) to) b
              unfold cs_lft
              rw [show cs_yf (cs_w1 σ b j (cs_hgt σ (nI b) to) to) b = (fun q => match q with | 0 => cs_yf σ b 0 | 1 => cs_yf σ b 1 | 2 => cs_yf σ b 2 + 1 | _ => cs_yf σ b 3) from va_up_self (cs_yf σ) b _]
              exact (if_neg c3).symm
            · iterate 2 refine px_go hX ?_
              refine ⟨_, _, ((px_up_n _ _ (hR.ne hr.1 (hr.2.1 3 (by decide) (by decide) (by decide)) (by decide))).trans ((px_up_n _ _ (hR.ne hr.1 (hr.2.1 4 (by decide) (by decide) (by decide)) (by decide))).trans (px_up_s _ _ _))), rfl, ?_⟩
              iterate 3 refine px_go hX ?_
              refine ⟨_, _, ((px_up_n _ _ (hR.ne (hr.2.1 6 (by decide) (by decide) (by decide)) (hr.2.1 3 (by decide) (by decide) (by decide)) (by decide))).trans ((px_up_n _ _ (hR.ne (hr.2.1 6 (by decide) (by decide) (by decide)) (hr.2.1 4 (by decide) (by decide) (by decide)) (by decide))).trans ((px_up_n _ _ (hR.ne (hr.2.1 6 (by decide) (by decide) (by decide)) hr.1 (by decide))).trans hA6))), (vp_in_nI (by omega) (by omega)), ?_⟩
              rw [nI_clamp (by omega), h6]
              iterate 3 refine px_go hX ?_
              refine ⟨_, _, ((px_up_n _ _ (hR.ne (hr.2.1 6 (by decide) (by decide) (by decide)) (hr.2.1 3 (by decide) (by decide) (by decide)) (by decide))).trans ((px_up_n _ _ (hR.ne (hr.2.1 6 (by decide) (by decide) (by decide)) (hr.2.1 4 (by decide) (by decide) (by decide)) (by decide))).trans ((px_up_n _ _ (hR.ne (hr.2.1 6 (by decide) (by decide) (by decide)) hr.1 (by decide))).trans hA6))), (vp_in_nI (by omega) (by omega)), ?_⟩
              rw [nI_clamp (by omega)]
              iterate 3 refine px_go hX ?_
              refine ⟨_, _, ((px_up_n _ _ (hR.ne hr.1 (hr.2.1 6 (by decide) (by decide) (by decide)) (by decide))).trans ((px_up_n _ _ (hR.ne hr.1 (hr.2.1 3 (by decide) (by decide) (by decide)) (by decide))).trans ((px_up_n _ _ (hR.ne hr.1 (hr.2.1 4 (by decide) (by decide) (by decide)) (by decide))).trans (px_up_s _ _ _)))), rfl, ?_⟩
              iterate 3 refine px_go hX ?_
              refine ⟨_, ((px_up_n _ _ (hR.ne hr.1 (hr.2.1 6 (by decide) (by decide) (by decide)) (by decide))).trans ((px_up_n _ _ (hR.ne hr.1 (hr.2.1 3 (by decide) (by decide) (by decide)) (by decide))).trans ((px_up_n _ _ (hR.ne hr.1 (hr.2.1 4 (by decide) (by decide) (by decide)) (by decide))).trans (px_up_s _ _ _)))), Nat.le_of_ble_eq_true rfl, rfl, rfl, ?_⟩
              iterate 2 refine px_go hX ?_
              refine ⟨_, _, (px_up_s _ _ _), rfl, ?_⟩
              iterate 3 refine px_go hX ?_
              refine ⟨_, _, ((px_up_n _ _ (hR.ne (hr.2.1 9 (by decide) (by decide) (by decide)) hr.1 (by decide))).trans ((px_up_n _ _ (hR.ne (hr.2.1 9 (by decide) (by decide) (by decide)) (hr.2.1 6 (by decide) (by decide) (by decide)) (by decide))).trans ((px_up_n _ _ (hR.ne (hr.2.1 9 (by decide) (by decide) (by decide)) (hr.2.1 3 (by decide) (by decide) (by decide)) (by decide))).trans ((px_up_n _ _ (hR.ne (hr.2.1 9 (by decide) (by decide) (by decide)) (hr.2.1 4 (by decide) (by decide) (by decide)) (by decide))).trans ((px_up_n _ _ (hR.ne (hr.2.1 9 (by decide) (by decide) (by decide)) hr.1 (by decide))).trans hA9))))), (vp_in_nI (by omega) (by omega)), ?_⟩
              rw [nI_clamp (by omega), w9]
              iterate 3 refine px_go hX ?_
              refine ⟨_, _, ((px_up_n _ _ (hR.ne (hr.2.1 9 (by decide) (by decide) (by decide)) hr.1 (by decide))).trans ((px_up_n _ _ (hR.ne (hr.2.1 9 (by decide) (by decide) (by decide)) (hr.2.1 6 (by decide) (by decide) (by decide)) (by decide))).trans ((px_up_n _ _ (hR.ne (hr.2.1 9 (by decide) (by decide) (by decide)) (hr.2.1 3 (by decide) (by decide) (by decide)) (by decide))).trans ((px_up_n _ _ (hR.ne (hr.2.1 9 (by decide) (by decide) (by decide)) (hr.2.1 4 (by decide) (by decide) (by decide)) (by decide))).trans ((px_up_n _ _ (hR.ne (hr.2.1 9 (by decide) (by decide) (by decide)) hr.1 (by decide))).trans hA9))))), (vp_in_nI (by omega) (by omega)), ?_⟩
              rw [nI_clamp (by omega)]
              iterate 3 refine px_go hX ?_
              refine ⟨_, _, ((px_up_n _ _ (hR.ne hr.1 (hr.2.1 9 (by decide) (by decide) (by decide)) (by decide))).trans (px_up_s _ _ _)), rfl, ?_⟩
              iterate 3 refine px_go hX ?_
              refine ⟨_, ((px_up_n _ _ (hR.ne hr.1 (hr.2.1 9 (by decide) (by decide) (by decide)) (by decide))).trans (px_up_s _ _ _)), Nat.le_of_ble_eq_true rfl, rfl, rfl, ?_⟩
              iterate 2 refine px_go hX ?_
              refine ⟨_, _, (px_up_s _ _ _), rfl, ?_⟩
              iterate 2 refine px_go hX ?_
              refine ⟨_, _, ((px_up_n _ _ (hR.ne (hr.2.1 8 (by decide) (by decide) (by decide)) hr.1 (by decide))).trans ((px_up_n _ _ (hR.ne (hr.2.1 8 (by decide) (by decide) (by decide)) (hr.2.1 9 (by decide) (by decide) (by decide)) (by decide))).trans ((px_up_n _ _ (hR.ne (hr.2.1 8 (by decide) (by decide) (by decide)) hr.1 (by decide))).trans ((px_up_n _ _ (hR.ne (hr.2.1 8 (by decide) (by decide) (by decide)) (hr.2.1 6 (by decide) (by decide) (by decide)) (by decide))).trans ((px_up_n _ _ (hR.ne (hr.2.1 8 (by decide) (by decide) (by decide)) (hr.2.1 3 (by decide) (by decide) (by decide)) (by decide))).trans ((px_up_n _ _ (hR.ne (hr.2.1 8 (by decide) (by decide) (by decide)) (hr.2.1 4 (by decide) (by decide) (by decide)) (by decide))).trans ((px_up_n _ _ (hR.ne (hr.2.1 8 (by decide) (by decide) (by decide)) hr.1 (by decide))).trans hA8))))))), (vp_in_nI (by omega) (by omega)), ?_⟩
              rw [nI_clamp (by omega), w8]
              iterate 2 refine px_go hX ?_
              refine ⟨_, _, (px_up_s _ _ _), rfl, ?_⟩
              iterate 2 refine px_go hX ?_
              refine ⟨_, _, ((px_up_n _ _ (hR.ne (hr.2.1 9 (by decide) (by decide) (by decide)) hr.1 (by decide))).trans (px_up_s _ _ _)), (vp_in_nI (by omega) (by omega)), ?_⟩
              rw [nI_clamp (by omega), pk_us]
              iterate 2 refine px_go hX ?_
              have hR1 := (((((((hR.put (i := 100) hr.1 (px_o 4 [.int ((0 : Int32)), .int (nI (cs_nb σ)), .int (nI (cs_ti σ)), .int (nI (cs_n σ)), .ref (ad 101), .ref (ad 102), .ref (ad 103), .ref (ad 104), .ref (ad 105), .ref (ad 106), .int (fs 1), .int (fs 2), .ref (ad 107), .ref (ad 108), .ref (ad 109), .ref (ad 110), .ref (ad 111), .ref (ad 112), .ref (ad 113), .ref (ad 114), .ref (ad 115), .int (fs 3), .ref (ad 116), .ref (ad 117), .int (fs 4)])).put (i := 104) ((rp_up_n _ _ (by decide)).trans (hr.2.1 4 (by decide) (by decide) (by decide))) (px_i 16 (upd (fa 4) (j) (cs_hgt σ (nI b) to)))).put (i := 103) ((rp_up_n _ _ (by decide)).trans ((rp_up_n _ _ (by decide)).trans (hr.2.1 3 (by decide) (by decide) (by decide)))) (px_i 16 (upd (fa 3) (j) (to)))).put (i := 106) ((rp_up_n _ _ (by decide)).trans ((rp_up_n _ _ (by decide)).trans ((rp_up_n _ _ (by decide)).trans (hr.2.1 6 (by decide) (by decide) (by decide))))) (px_i 4 (upd (fa 6) (b) ((cs_yf σ b 3) - ((1 : Int32)))))).put (i := 100) ((rp_up_n _ _ (by decide)).trans ((rp_up_n _ _ (by decide)).trans ((rp_up_n _ _ (by decide)).trans (rp_up_s _ _ _)))) (px_o 4 [.int ((0 : Int32)), .int (nI (cs_nb σ)), .int (nI (cs_ti σ)), .int (nI (cs_n σ)), .ref (ad 101), .ref (ad 102), .ref (ad 103), .ref (ad 104), .ref (ad 105), .ref (ad 106), .int ((fs 1) + ((1 : Int32))), .int (fs 2), .ref (ad 107), .ref (ad 108), .ref (ad 109), .ref (ad 110), .ref (ad 111), .ref (ad 112), .ref (ad 113), .ref (ad 114), .ref (ad 115), .int (fs 3), .ref (ad 116), .ref (ad 117), .int (fs 4)])).put (i := 109) ((rp_up_n _ _ (by decide)).trans ((rp_up_n _ _ (by decide)).trans ((rp_up_n _ _ (by decide)).trans ((rp_up_n _ _ (by decide)).trans ((rp_up_n _ _ (by decide)).trans (hr.2.1 9 (by decide) (by decide) (by decide))))))) (px_i 4 (upd (fa 9) (b) ((cs_yf σ b 2) + ((1 : Int32)))))).put (i := 100) ((rp_up_n _ _ (by decide)).trans (rp_up_s _ _ _)) (px_o 4 [.int ((0 : Int32)), .int (nI (cs_nb σ)), .int (nI (cs_ti σ)), .int (nI (cs_n σ)), .ref (ad 101), .ref (ad 102), .ref (ad 103), .ref (ad 104), .ref (ad 105), .ref (ad 106), .int ((fs 1) + ((1 : Int32))), .int ((fs 2) + ((1 : Int32))), .ref (ad 107), .ref (ad 108), .ref (ad 109), .ref (ad 110), .ref (ad 111), .ref (ad 112), .ref (ad 113), .ref (ad 114), .ref (ad 115), .int (fs 3), .ref (ad 116), .ref (ad 117), .int (fs 4)]))
              have hr1 : Rl ad ((σ.1, (fun q => match q with | 0 => 0 | 1 => fs 1 + 1 | 2 => fs 2 + 1 | 3 => fs 3 | _ => fs 4), (va_up (va_up (va_up (va_up fa 4 (upd (fa 4) j (cs_hgt σ (nI b) to))) 3 (upd (fa 3) j to)) 6 (upd (fa 6) b (cs_yf σ b 3 - 1))) 9 (upd (fa 9) b (cs_yf σ b 2 + 1))), fw)) (rp_up (rp_up (rp_up (rp_up (rp_up (rp_up (rp_up (K) (100) (px_o 4 [.int ((0 : Int32)), .int (nI (cs_nb σ)), .int (nI (cs_ti σ)), .int (nI (cs_n σ)), .ref (ad 101), .ref (ad 102), .ref (ad 103), .ref (ad 104), .ref (ad 105), .ref (ad 106), .int (fs 1), .int (fs 2), .ref (ad 107), .ref (ad 108), .ref (ad 109), .ref (ad 110), .ref (ad 111), .ref (ad 112), .ref (ad 113), .ref (ad 114), .ref (ad 115), .int (fs 3), .ref (ad 116), .ref (ad 117), .int (fs 4)])) (104) (px_i 16 (upd (fa 4) (j) (cs_hgt σ (nI b) to)))) (103) (px_i 16 (upd (fa 3) (j) (to)))) (106) (px_i 4 (upd (fa 6) (b) ((cs_yf σ b 3) - ((1 : Int32)))))) (100) (px_o 4 [.int ((0 : Int32)), .int (nI (cs_nb σ)), .int (nI (cs_ti σ)), .int (nI (cs_n σ)), .ref (ad 101), .ref (ad 102), .ref (ad 103), .ref (ad 104), .ref (ad 105), .ref (ad 106), .int ((fs 1) + ((1 : Int32))), .int (fs 2), .ref (ad 107), .ref (ad 108), .ref (ad 109), .ref (ad 110), .ref (ad 111), .ref (ad 112), .ref (ad 113), .ref (ad 114), .ref (ad 115), .int (fs 3), .ref (ad 116), .ref (ad 117), .int (fs 4)])) (109) (px_i 4 (upd (fa 9) (b) ((cs_yf σ b 2) + ((1 : Int32)))))) (100) (px_o 4 [.int ((0 : Int32)), .int (nI (cs_nb σ)), .int (nI (cs_ti σ)), .int (nI (cs_n σ)), .ref (ad 101), .ref (ad 102), .ref (ad 103), .ref (ad 104), .ref (ad 105), .ref (ad 106), .int ((fs 1) + ((1 : Int32))), .int ((fs 2) + ((1 : Int32))), .ref (ad 107), .ref (ad 108), .ref (ad 109), .ref (ad 110), .ref (ad 111), .ref (ad 112), .ref (ad 113), .ref (ad 114), .ref (ad 115), .int (fs 3), .ref (ad 116), .ref (ad 117), .int (fs 4)])) := ((((((hr.sO _ (fun q => match q with | 0 => 0 | 1 => fs 1 | 2 => fs 2 | 3 => fs 3 | _ => fs 4)).sA (q := 4) (by decide) (by decide) (by decide) _).sA (q := 3) (by decide) (by decide) (by decide) _).sA (q := 6) (by decide) (by decide) (by decide) _).sO _ (fun q => match q with | 0 => 0 | 1 => fs 1 + 1 | 2 => fs 2 | 3 => fs 3 | _ => fs 4)).sA (q := 9) (by decide) (by decide) (by decide) _).sO _ (fun q => match q with | 0 => 0 | 1 => fs 1 + 1 | 2 => fs 2 + 1 | 3 => fs 3 | _ => fs 4)
              have hK1 : ∀ zz, zz < 100 ∨ 118 ≤ zz → (rp_up (rp_up (rp_up (rp_up (rp_up (rp_up (rp_up (K) (100) (px_o 4 [.int ((0 : Int32)), .int (nI (cs_nb σ)), .int (nI (cs_ti σ)), .int (nI (cs_n σ)), .ref (ad 101), .ref (ad 102), .ref (ad 103), .ref (ad 104), .ref (ad 105), .ref (ad 106), .int (fs 1), .int (fs 2), .ref (ad 107), .ref (ad 108), .ref (ad 109), .ref (ad 110), .ref (ad 111), .ref (ad 112), .ref (ad 113), .ref (ad 114), .ref (ad 115), .int (fs 3), .ref (ad 116), .ref (ad 117), .int (fs 4)])) (104) (px_i 16 (upd (fa 4) (j) (cs_hgt σ (nI b) to)))) (103) (px_i 16 (upd (fa 3) (j) (to)))) (106) (px_i 4 (upd (fa 6) (b) ((cs_yf σ b 3) - ((1 : Int32)))))) (100) (px_o 4 [.int ((0 : Int32)), .int (nI (cs_nb σ)), .int (nI (cs_ti σ)), .int (nI (cs_n σ)), .ref (ad 101), .ref (ad 102), .ref (ad 103), .ref (ad 104), .ref (ad 105), .ref (ad 106), .int ((fs 1) + ((1 : Int32))), .int (fs 2), .ref (ad 107), .ref (ad 108), .ref (ad 109), .ref (ad 110), .ref (ad 111), .ref (ad 112), .ref (ad 113), .ref (ad 114), .ref (ad 115), .int (fs 3), .ref (ad 116), .ref (ad 117), .int (fs 4)])) (109) (px_i 4 (upd (fa 9) (b) ((cs_yf σ b 2) + ((1 : Int32)))))) (100) (px_o 4 [.int ((0 : Int32)), .int (nI (cs_nb σ)), .int (nI (cs_ti σ)), .int (nI (cs_n σ)), .ref (ad 101), .ref (ad 102), .ref (ad 103), .ref (ad 104), .ref (ad 105), .ref (ad 106), .int ((fs 1) + ((1 : Int32))), .int ((fs 2) + ((1 : Int32))), .ref (ad 107), .ref (ad 108), .ref (ad 109), .ref (ad 110), .ref (ad 111), .ref (ad 112), .ref (ad 113), .ref (ad 114), .ref (ad 115), .int (fs 3), .ref (ad 116), .ref (ad 117), .int (fs 4)])) zz = (K) zz := fun zz hzz => by rw [rp_up_n _ _ (by omega), rp_up_n _ _ (by omega), rp_up_n _ _ (by omega), rp_up_n _ _ (by omega), rp_up_n _ _ (by omega), rp_up_n _ _ (by omega), rp_up_n _ _ (by omega)]
              have ht : cs_wt σ (nI b) to = cs_hgt σ (nI b) to := if_neg c5
              rw [hq, show of_wk σ (nI b) b j to = (0, cs_lft (cs_w2 σ b j (cs_hgt σ (nI b) to) to) b, cs_w2 σ b j (cs_hgt σ (nI b) to) to) from by rw [← ht]; exact if_pos ⟨c8, Int32.not_le.mp c9⟩]
              refine ⟨_, _, ⟨_, hR1, hr1, hK1⟩, Sim.w2 hs hb hj c3 hm hw0 hlt hm12 _ _ rfl rfl, rfl, rfl, fun _ => ?_⟩
              show cs_yf σ b 1 - (cs_yf σ b 2 + 1) = cs_lft (cs_w2 σ b j (cs_hgt σ (nI b) to) to) b
              unfold cs_lft
              rw [show cs_yf (cs_w2 σ b j (cs_hgt σ (nI b) to) to) b = (fun q => match q with | 0 => cs_yf σ b 0 | 1 => cs_yf σ b 1 | 2 => cs_yf σ b 2 + 1 | _ => cs_yf σ b 3 - 1) from va_up_self (cs_yf (cs_w1 σ b j (cs_hgt σ (nI b) to) to)) b _]
              exact (if_neg c3).symm
      · iterate 3 refine px_go hX ?_
        refine ⟨_, (hR.1 100 _ hr.1), 0, 0, _, Nat.le_of_ble_eq_true rfl, Nat.le_of_ble_eq_true rfl, Nat.le_of_ble_eq_true rfl, rr_refuse hR hr hs _, ?_⟩
        rintro _ C ⟨rfl, hC1⟩
        refine px_go hX ?_
        have hq : of_work σ (nI b) = (2, 0, σ) := by
          unfold of_work
          rw [hbq]
          exact if_pos (Or.inr (Or.inr (Or.inl (by rw [c4]; exact Int32.le_refl _))))
        rw [hq]
        exact ⟨_, _, hC1, hs, rfl, rfl, fun h => absurd (show (2 : Nat) = 0 from h) (by decide)⟩
  · refine px_go hX ?_
    refine ⟨fun (c10 : ¬ 0 = 0) => absurd rfl c10, fun (c10 : 0 = 0) => ?_⟩
    iterate 3 refine px_go hX ?_
    refine ⟨_, (hR.1 100 _ hr.1), 0, 0, _, Nat.le_of_ble_eq_true rfl, Nat.le_of_ble_eq_true rfl, Nat.le_of_ble_eq_true rfl, rr_refuse hR hr hs _, ?_⟩
    rintro _ C ⟨rfl, hC1⟩
    refine px_go hX ?_
    have hq : of_work σ x = (1, 0, σ) := by
      unfold of_work
      rw [cs_bq_n (px_nix b1)]
    rw [hq]
    exact ⟨_, _, hC1, hs, rfl, rfl, fun h => absurd (show (1 : Nat) = 0 from h) (by decide)⟩
end SE
