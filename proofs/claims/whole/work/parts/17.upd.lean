/-! The class's state changes. -/
theorem rp_up_up (K : rp_K) (i : Nat) (e1 e2 : px_E) : rp_up (rp_up K i e1) i e2 = rp_up K i e2 := by
  funext j
  unfold rp_up
  by_cases h : j = i
  · rw [if_pos h, if_pos h]
  · rw [if_neg h, if_neg h, if_neg h]
def cs_sY (σ : ck_S) (b : Nat) (f : Nat → Int32) : ck_S := (σ.1, σ.2.1, σ.2.2.1, va_up (cs_yf σ) b f, σ.2.2.2.2)
def cs_sB (σ : ck_S) (j : Nat) (f : Nat → Int32) : ck_S := (σ.1, σ.2.1, va_up (cs_bf σ) j f, σ.2.2.2)
def cs_sA (σ : ck_S) (b k : Nat) (g : Nat → Int32) : ck_S := (σ.1, σ.2.1, σ.2.2.1, σ.2.2.2.1, va_up (cs_ya σ) b (va_up (cs_ya σ b) k g), σ.2.2.2.2.2)
def cs_sM (σ : ck_S) (mw lg : Int32) : ck_S := (σ.1, (mw, lg), σ.2.2)
def cs_sSa (σ : ck_S) (k : Nat) (g : Nat → Int32) : ck_S := (σ.1, σ.2.1, σ.2.2.1, σ.2.2.2.1, σ.2.2.2.2.1, va_up (cs_sa σ) k g, σ.2.2.2.2.2.2)
def cs_sSn (σ : ck_S) (g : Nat → Int64) : ck_S := (σ.1, σ.2.1, σ.2.2.1, σ.2.2.2.1, σ.2.2.2.2.1, σ.2.2.2.2.2.1, g, σ.2.2.2.2.2.2.2)
def cs_sSi (σ : ck_S) (f : Nat → Int32) : ck_S := (σ.1, σ.2.1, σ.2.2.1, σ.2.2.2.1, σ.2.2.2.2.1, σ.2.2.2.2.2.1, σ.2.2.2.2.2.2.1, f)
/-- a picture in which the class stands at σ, the rest as K has it -/
def Ck (ad : Nat → Nat) (σ : ck_S) (K : rp_K) (C : px_P) : Prop := ∃ K', Rp ad K' C ∧ Cl ad σ K' ∧ ∀ i, 100 ≤ i → K' i = K i
theorem Cl.sY {ad : Nat → Nat} {σ : ck_S} {K : rp_K} (h : Cl ad σ K) {b : Nat} (hb : b < cs_nb σ) (f : Nat → Int32) : Cl ad (cs_sY σ b f) (rp_up K (20 + 4 * b) (px_o 1 [.ref (ad (21 + 4 * b)), .ref (ad (22 + 4 * b)), .ref (ad (23 + 4 * b)), .int (f 0), .int (f 1), .int (f 2), .int (f 3)])) := by
  obtain ⟨⟨a0, a1, a2, a3⟩, ⟨b4, b5, b6, b7, b8, b9, b10, b11⟩, hy, hx, hn, q1, q2, q3, q4, q5⟩ := h
  refine ⟨⟨?_, ?_, ?_, ?_⟩, ⟨?_, ?_, ?_, ?_, ?_, ?_, ?_, ?_⟩, fun c hc => ?_, fun j hj => ?_, fun j hj hj2 => ?_, q1, q2, q3, q4, q5⟩
  iterate 12 (first | (rw [rp_up_n K _ (by omega)]; assumption))
  · have hc : c < cs_nb σ := hc
    obtain ⟨y0, y1, y2, y3⟩ := hy c hc
    refine ⟨?_, by rw [rp_up_n K _ (by omega)]; exact y1, by rw [rp_up_n K _ (by omega)]; exact y2, by rw [rp_up_n K _ (by omega)]; exact y3⟩
    by_cases hcb : c = b
    · subst hcb
      rw [rp_up_s]
      show _ = some (px_o 1 [_, _, _, .int (va_up (cs_yf σ) c f c 0), .int (va_up (cs_yf σ) c f c 1), .int (va_up (cs_yf σ) c f c 2), .int (va_up (cs_yf σ) c f c 3)])
      rw [va_up_self]
    · rw [rp_up_n K _ (by omega), y0]
      show _ = some (px_o 1 [_, _, _, .int (va_up (cs_yf σ) b f c 0), .int (va_up (cs_yf σ) b f c 1), .int (va_up (cs_yf σ) b f c 2), .int (va_up (cs_yf σ) b f c 3)])
      rw [va_up_ne _ _ hcb]
  · have hj : j < cs_n σ := hj
    rw [rp_up_n K _ (by omega)]
    exact hx j hj
  · rw [rp_up_n K _ (by omega)]
    exact hn j hj hj2
theorem Cl.sB {ad : Nat → Nat} {σ : ck_S} {K : rp_K} (h : Cl ad σ K) {k : Nat} (hk : k < cs_n σ) (f : Nat → Int32) : Cl ad (cs_sB σ k f) (rp_up K (40 + k) (px_o 2 [.int (f 0), .int (f 1), .int (f 2), .int (f 3), .int (f 4)])) := by
  obtain ⟨⟨a0, a1, a2, a3⟩, ⟨b4, b5, b6, b7, b8, b9, b10, b11⟩, hy, hx, hn, q1, q2, q3, q4, q5⟩ := h
  refine ⟨⟨?_, ?_, ?_, ?_⟩, ⟨?_, ?_, ?_, ?_, ?_, ?_, ?_, ?_⟩, fun c hc => ?_, fun j hj => ?_, fun j hj hj2 => ?_, q1, q2, q3, q4, q5⟩
  iterate 12 (first | (rw [rp_up_n K _ (by omega)]; assumption))
  · have hc : c < cs_nb σ := hc
    obtain ⟨y0, y1, y2, y3⟩ := hy c hc
    exact ⟨by rw [rp_up_n K _ (by omega)]; exact y0, by rw [rp_up_n K _ (by omega)]; exact y1, by rw [rp_up_n K _ (by omega)]; exact y2, by rw [rp_up_n K _ (by omega)]; exact y3⟩
  · have hj : j < cs_n σ := hj
    by_cases hjk : j = k
    · subst hjk
      rw [rp_up_s]
      show _ = some (px_o 2 [.int (va_up (cs_bf σ) j f j 0), .int (va_up (cs_bf σ) j f j 1), .int (va_up (cs_bf σ) j f j 2), .int (va_up (cs_bf σ) j f j 3), .int (va_up (cs_bf σ) j f j 4)])
      rw [va_up_self]
    · rw [rp_up_n K _ (by omega), hx j hj]
      show _ = some (px_o 2 [.int (va_up (cs_bf σ) k f j 0), .int (va_up (cs_bf σ) k f j 1), .int (va_up (cs_bf σ) k f j 2), .int (va_up (cs_bf σ) k f j 3), .int (va_up (cs_bf σ) k f j 4)])
      rw [va_up_ne _ _ hjk]
  · have hj : cs_n σ ≤ j := hj
    rw [rp_up_n K _ (by omega)]
    exact hn j hj hj2
theorem Cl.sM {ad : Nat → Nat} {σ : ck_S} {K : rp_K} (h : Cl ad σ K) (mw lg : Int32) : Cl ad (cs_sM σ mw lg) (rp_up K 0 (px_o 0 [.int (nI (cs_ti σ)), .ref (ad 1), .ref (ad 2), .ref (ad 3), .int (nI (cs_n σ)), .int mw, .int lg])) := by
  obtain ⟨⟨a0, a1, a2, a3⟩, ⟨b4, b5, b6, b7, b8, b9, b10, b11⟩, hy, hx, hn, q1, q2, q3, q4, q5⟩ := h
  refine ⟨⟨rp_up_s _ _ _, ?_, ?_, ?_⟩, ⟨?_, ?_, ?_, ?_, ?_, ?_, ?_, ?_⟩, fun c hc => ?_, fun j hj => ?_, fun j hj hj2 => ?_, q1, q2, q3, q4, q5⟩
  iterate 11 (first | (rw [rp_up_n K _ (by omega)]; assumption))
  · have hc : c < cs_nb σ := hc
    obtain ⟨y0, y1, y2, y3⟩ := hy c hc
    exact ⟨by rw [rp_up_n K _ (by omega)]; exact y0, by rw [rp_up_n K _ (by omega)]; exact y1, by rw [rp_up_n K _ (by omega)]; exact y2, by rw [rp_up_n K _ (by omega)]; exact y3⟩
  · have hj : j < cs_n σ := hj
    rw [rp_up_n K _ (by omega)]
    exact hx j hj
  · rw [rp_up_n K _ (by omega)]
    exact hn j hj hj2
theorem Cl.sA {ad : Nat → Nat} {σ : ck_S} {K : rp_K} (h : Cl ad σ K) {b k : Nat} (hb : b < cs_nb σ) (hk : k < 3) (g : Nat → Int32) : Cl ad (cs_sA σ b k g) (rp_up K (21 + 4 * b + k) (px_i 12 g)) := by
  obtain ⟨⟨a0, a1, a2, a3⟩, ⟨b4, b5, b6, b7, b8, b9, b10, b11⟩, hy, hx, hn, q1, q2, q3, q4, q5⟩ := h
  refine ⟨⟨?_, ?_, ?_, ?_⟩, ⟨?_, ?_, ?_, ?_, ?_, ?_, ?_, ?_⟩, fun c hc => ?_, fun j hj => ?_, fun j hj hj2 => ?_, q1, q2, q3, q4, q5⟩
  iterate 12 (first | (rw [rp_up_n K _ (by omega)]; assumption))
  · have hc : c < cs_nb σ := hc
    obtain ⟨y0, y1, y2, y3⟩ := hy c hc
    have key : ∀ m, m < 3 → K (21 + 4 * c + m) = some (px_i 12 (cs_ya σ c m)) → rp_up K (21 + 4 * b + k) (px_i 12 g) (21 + 4 * c + m) = some (px_i 12 (cs_ya (cs_sA σ b k g) c m)) := by
      intro m hm hy
      show _ = some (px_i 12 (va_up (cs_ya σ) b (va_up (cs_ya σ b) k g) c m))
      by_cases hcb : c = b
      · subst hcb
        rw [va_up_self]
        by_cases hmk : m = k
        · subst hmk
          rw [rp_up_s, va_up_self]
        · rw [rp_up_n K _ (by omega), va_up_ne _ _ hmk]
          exact hy
      · rw [rp_up_n K _ (by omega), va_up_ne _ _ hcb]
        exact hy
    refine ⟨by rw [rp_up_n K _ (by omega)]; exact y0, key 0 (by omega) y1, ?_, ?_⟩
    · rw [show 22 + 4 * c = 21 + 4 * c + 1 by omega]
      exact key 1 (by omega) (by rw [show 21 + 4 * c + 1 = 22 + 4 * c by omega]; exact y2)
    · rw [show 23 + 4 * c = 21 + 4 * c + 2 by omega]
      exact key 2 (by omega) (by rw [show 21 + 4 * c + 2 = 23 + 4 * c by omega]; exact y3)
  · have hj : j < cs_n σ := hj
    rw [rp_up_n K _ (by omega)]
    exact hx j hj
  · rw [rp_up_n K _ (by omega)]
    exact hn j hj hj2
section RE
variable {B : Nat} {sc : Option (Nat × Nat × (Nat → Int32))} {d : Nat} {ad : Nat → Nat} {σ : ck_S} {K : rp_K} {C : px_P}
/-- a bay's plan is forgotten -/
def cs_fp (σ : ck_S) (b : Nat) : ck_S := cs_sY σ b (fun k => match k with | 3 => cs_yf σ b 3 | _ => 0)
theorem cc_forgetPlan (hR : Rp ad K C) (hc : Cl ad σ K) {b : Nat} (hb : b < cs_nb σ) : px_W ps_Y ps_P B sc (d + 1) 8 [.ref (ad (20 + 4 * b))] C 0 0 (fun v C' => v = none ∧ Ck ad (cs_fp σ b) K C') px_no := by
  have h1 := (hc.2.2.1 b hb).1
  have h0 := hR.1 _ _ h1
  have hlt : 20 + 4 * b < 100 := by have := hc.2.2.2.2.2.2.1; omega
  refine ⟨pm_Bay_forgetPlan, rfl, Nat.le_of_ble_eq_true rfl, fun X hw hX => ?_⟩
  repeat refine px_go hX ?_
  refine ⟨_, h0, Nat.le_of_ble_eq_true rfl, rfl, rfl, ?_⟩
  repeat refine px_go hX ?_
  refine ⟨_, (px_up_s _ _ _), Nat.le_of_ble_eq_true rfl, rfl, rfl, ?_⟩
  repeat refine px_go hX ?_
  refine ⟨_, (px_up_s _ _ _), Nat.le_of_ble_eq_true rfl, rfl, rfl, ?_⟩
  repeat refine px_go hX ?_
  refine ⟨rfl, _, ((hR.put h1 _).put (rp_up_s _ _ _) _).put (rp_up_s _ _ _) _, ?_, fun i hi => ?_⟩
  · rw [rp_up_up, rp_up_up]
    exact hc.sY hb _
  · rw [rp_up_n _ _ (by omega), rp_up_n _ _ (by omega), rp_up_n _ _ (by omega)]
theorem cc_forgetPlanOf (hR : Rp ad K C) (hc : Cl ad σ K) {b : Nat} (hb : b < cs_nb σ) : px_W ps_Y ps_P B sc (d + 2) 9 [.ref (ad 0), .int (nI b)] C 0 0 (fun v C' => v = none ∧ Ck ad (cs_fp σ b) K C') px_no := by
  have h0 := hR.1 0 _ hc.1.1
  have hnb := hc.2.2.2.2.2.2.1
  have h1 := hR.1 _ _ (hc.2.2.1 b hb).1
  refine ⟨pm_Mo_forgetPlanOf, rfl, Nat.le_of_ble_eq_true rfl, fun X hw hX => ?_⟩
  repeat refine px_go hX ?_
  refine ⟨_, h0, 0, 0, _, Nat.le_refl _, Nat.le_refl _, Nat.le_of_ble_eq_true rfl, cc_bayAt hR hc _, ?_⟩
  rintro v C' ⟨rfl, ⟨j, hj, he, rfl⟩ | ⟨h | h, -⟩⟩
  · have hij : b = j := (nI_eq (by omega) (by omega)).mp he
    subst hij
    repeat refine px_go hX ?_
    refine ⟨_, h1, 0, 0, _, Nat.le_refl _, Nat.le_refl _, Nat.le_of_ble_eq_true rfl, cc_forgetPlan hR hc hb, ?_⟩
    rintro v C' ⟨rfl, hk⟩
    repeat refine px_go hX ?_
    exact ⟨rfl, hk⟩
  · exact absurd h (nI_pos (by omega))
  · exact absurd h (nI_ge hb (by omega))
theorem cc_movesLeft (hR : Rp ad K C) (hc : Cl ad σ K) {b : Nat} (hb : b < cs_nb σ) : px_W ps_Y ps_P B sc (d + 1) 17 [.ref (ad (20 + 4 * b))] C 0 0 (fun v C' => C' = C ∧ ((cs_yf σ b 0 = 0 ∧ v = some (.int (-1))) ∨ (¬ cs_yf σ b 0 = 0 ∧ v = some (.int (cs_yf σ b 1 - cs_yf σ b 2))))) px_no := by
  have h0 := hR.1 _ _ (hc.2.2.1 b hb).1
  refine ⟨pm_Bay_movesLeft, rfl, Nat.le_of_ble_eq_true rfl, fun X hw hX => ?_⟩
  repeat refine px_go hX ?_
  refine ⟨_, _, h0, rfl, ?_⟩
  repeat refine px_go hX ?_
  refine ⟨fun c1 => ?_, fun c1 => ?_⟩
  · repeat refine px_go hX ?_
    exact ⟨rfl, Or.inl ⟨c1, rfl⟩⟩
  · repeat refine px_go hX ?_
    refine ⟨_, _, h0, rfl, ?_⟩
    repeat refine px_go hX ?_
    refine ⟨_, _, h0, rfl, ?_⟩
    repeat refine px_go hX ?_
    exact ⟨rfl, Or.inr ⟨c1, rfl⟩⟩
theorem cc_hasMove (hR : Rp ad K C) (hc : Cl ad σ K) {b : Nat} (hb : b < cs_nb σ) (x : Int32) : px_W ps_Y ps_P B sc (d + 1) 20 [.ref (ad (20 + 4 * b)), .int x] C 0 0 (px_bo (¬ cs_yf σ b 0 = 0 ∧ ¬ x < 0 ∧ ¬ cs_yf σ b 1 ≤ x ∧ ¬ 12 ≤ x) C) px_no := by
  have h0 := hR.1 _ _ (hc.2.2.1 b hb).1
  refine ⟨pm_Bay_hasMove, rfl, Nat.le_of_ble_eq_true rfl, fun X hw hX => ?_⟩
  repeat refine px_go hX ?_
  refine ⟨_, _, h0, rfl, ?_⟩
  repeat refine px_go hX ?_
  refine ⟨fun c1 => ?_, fun c1 => ?_⟩
  · repeat refine px_go hX ?_
    exact ⟨Or.inl rfl, rfl, Or.inr ⟨fun q => q.1 c1, rfl⟩⟩
  · repeat refine px_go hX ?_
    refine ⟨fun c2 => ?_, fun c2 => ?_⟩
    · repeat refine px_go hX ?_
      exact ⟨Or.inl rfl, rfl, Or.inr ⟨fun q => q.2.1 c2, rfl⟩⟩
    · repeat refine px_go hX ?_
      refine ⟨_, _, h0, rfl, ?_⟩
      repeat refine px_go hX ?_
      refine ⟨fun c3 => ?_, fun c3 => ?_⟩
      · repeat refine px_go hX ?_
        exact ⟨Or.inl rfl, rfl, Or.inr ⟨fun q => q.2.2.1 c3, rfl⟩⟩
      · repeat refine px_go hX ?_
        refine ⟨fun c4 => ?_, fun c4 => ?_⟩
        · repeat refine px_go hX ?_
          exact ⟨Or.inl rfl, rfl, Or.inr ⟨fun q => q.2.2.2 c4, rfl⟩⟩
        · repeat refine px_go hX ?_
          exact ⟨Or.inr rfl, rfl, Or.inl ⟨⟨c1, c2, c3, c4⟩, rfl⟩⟩
end RE
