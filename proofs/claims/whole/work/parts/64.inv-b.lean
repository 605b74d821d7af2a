/-! What holds between calls: swap, box. -/
def tau (j k i : Nat) : Nat := if i = j then k else if i = k then j else i
theorem tau_j (j k : Nat) : tau j k j = k := if_pos rfl
theorem tau_k {j k : Nat} (h : j ≠ k) : tau j k k = j := by
  unfold tau
  rw [if_neg (fun w => h w.symm), if_pos rfl]
theorem tau_n {j k i : Nat} (h1 : i ≠ j) (h2 : i ≠ k) : tau j k i = i := by
  unfold tau
  rw [if_neg h1, if_neg h2]
theorem tau_tau {j k : Nat} (h : j ≠ k) (i : Nat) : tau j k (tau j k i) = i := by
  by_cases h1 : i = j
  · rw [h1, tau_j, tau_k h]
  · by_cases h2 : i = k
    · rw [h2, tau_k h, tau_j]
    · rw [tau_n h1 h2, tau_n h1 h2]
theorem tau_lt {j k n i : Nat} (hj : j < n) (hk : k < n) (hi : i < n) : tau j k i < n := by
  unfold tau
  split
  · exact hk
  · split
    · exact hj
    · exact hi
theorem pn_ct_tau {j k n : Nat} (hjk : j ≠ k) (hj : j < n) (hk : k < n) (p : Nat → Bool) : pn_ct (fun i => p (tau j k i)) n = pn_ct p n :=
  (ct_fn (N := n) (tau j k) n p (fun a b _ _ e => by
    have := congrArg (tau j k) e
    rwa [tau_tau hjk, tau_tau hjk] at this) (fun i hi => tau_lt hj hk hi) (fun i hi _ => ⟨tau j k i, tau_lt hj hk hi, tau_tau hjk i⟩)).symm
section IB
variable {σ : ck_S}
theorem Inv.sw (h : Inv σ) {j k : Nat} (hj : j < cs_n σ) (hk : k < cs_n σ) (hjk : j ≠ k) (hpj : ∀ b, b < cs_nb σ → cs_bf σ j 1 = nI b → cs_yf σ b 0 = 0) (hpk : ∀ b, b < cs_nb σ → cs_bf σ k 1 = nI b → cs_yf σ b 0 = 0) (hnj : ¬ cs_nds σ j) (hnk : ¬ cs_nds σ k) : Inv (cs_sw σ j k) := by
  obtain ⟨bd, ib, rg, er, n1, pp, hz, b4, ge, pk, pb⟩ := h
  have hn := bd.2.2.2.2
  have bk : cs_bf (cs_sw σ j k) k = (fun q => match q with | 0 => cs_bf σ k 0 | 1 => cs_bf σ j 1 | 2 => cs_bf σ j 2 | 3 => cs_bf σ j 3 | _ => cs_bf σ k 4) := va_up_self _ _ _
  have bj : cs_bf (cs_sw σ j k) j = (fun q => match q with | 0 => cs_bf σ j 0 | 1 => cs_bf σ k 1 | 2 => cs_bf σ k 2 | 3 => cs_bf σ k 3 | _ => cs_bf σ j 4) := (va_up_ne _ _ hjk).trans (va_up_self _ _ _)
  have bn : ∀ i, i ≠ j → i ≠ k → cs_bf (cs_sw σ j k) i = cs_bf σ i := fun i h1 h2 => (va_up_ne _ _ h2).trans (va_up_ne _ _ h1)
  have b13 : ∀ i q, 1 ≤ q → q < 4 → cs_bf (cs_sw σ j k) i q = cs_bf σ (tau j k i) q := fun i q h1 h4 => by
    by_cases e1 : i = j
    · rw [e1, bj, tau_j]
      match q, h1, h4 with
      | 1, _, _ => rfl
      | 2, _, _ => rfl
      | 3, _, _ => rfl
    · by_cases e2 : i = k
      · rw [e2, bk, tau_k hjk]
        match q, h1, h4 with
        | 1, _, _ => rfl
        | 2, _, _ => rfl
        | 3, _, _ => rfl
      · rw [bn i e1 e2, tau_n e1 e2]
  have b4' : ∀ i, cs_bf (cs_sw σ j k) i 4 = cs_bf σ i 4 := fun i => by
    by_cases e1 : i = j
    · rw [e1, bj]
      rfl
    · by_cases e2 : i = k
      · rw [e2, bk]
        rfl
      · rw [bn i e1 e2]
  have eb : cbe (cs_sw σ j k) = fun i => cbe σ (tau j k i) := by
    funext i
    exact b13 i 1 (by omega) (by omega)
  have ep : cpl (cs_sw σ j k) = fun i => cpl σ (tau j k i) := by
    funext i
    unfold cpl plc
    rw [b13 i 2 (by omega) (by omega), b13 i 3 (by omega) (by omega)]
  have lt : ∀ {i}, i < cs_n σ → tau j k i < cs_n σ := fun hi => tau_lt hj hk hi
  have nd : ∀ x y, cs_need (cs_sw σ j k) x y ↔ cs_need σ x y := fun x y => by
    unfold cs_need
    rw [b4' y]
    exact Iff.rfl
  have nno : ∀ x y, x < cs_n σ → cs_need σ x y → (x ≠ j ∧ x ≠ k) ∧ (y ≠ j ∧ y ≠ k) := fun x y hx hxy => by
    have key : ∀ i, i < cs_n σ → ¬ cs_nds σ i → x ≠ i ∧ y ≠ i := fun i hi hni => by
      have hni := fun w => hni ((nds_iff hn er hi).mpr w)
      exact ⟨fun e => hni ⟨y, by have := hxy.1; omega, Or.inl (e ▸ hxy)⟩, fun e => hni ⟨x, by omega, Or.inr (e ▸ hxy)⟩⟩
    exact ⟨⟨(key j hj hnj).1, (key k hk hnk).1⟩, (key j hj hnj).2, (key k hk hnk).2⟩
  have cbt : ∀ x s, cbv (cs_n σ) (cbe (cs_sw σ j k)) (cpl (cs_sw σ j k)) x s = cbv (cs_n σ) (cbe σ) (cpl σ) x s := fun x s => by
    rw [eb, ep]
    exact pn_ct_tau hjk hj hk (fun i => decide (cbe σ i = x ∧ cpl σ i / 4 = s))
  refine ⟨bd, fun i hi => by rw [b13 i 1 (by omega) (by omega)]; exact ib _ (lt hi), fun i hi => by rw [b13 i 2 (by omega) (by omega), b13 i 3 (by omega) (by omega)]; exact rg _ (lt hi), fun i hi => by rw [b4' i]; exact er i hi, fun x y hx hxy => ?_, pp, hz, fun x => ?_, fun b hb => ?_, fun b hb h0 => ?_, pb⟩
  · have hxy := (nd x y).mp hxy
    obtain ⟨⟨a1, a2⟩, a3, a4⟩ := nno x y hx hxy
    rw [bn x a1 a2, bn y a3 a4]
    exact n1 x y hx hxy
  · have := pn_ct_tau hjk hj hk (fun i => decide (cs_bf σ i 1 = x ∧ ¬ cs_bf σ i 2 = 3))
    rw [show (fun i => decide (cs_bf (cs_sw σ j k) i 1 = x ∧ ¬ cs_bf (cs_sw σ j k) i 2 = 3)) = (fun i => decide (cs_bf σ (tau j k i) 1 = x ∧ ¬ cs_bf σ (tau j k i) 2 = 3)) from funext (fun i => by rw [b13 i 1 (by omega) (by omega), b13 i 2 (by omega) (by omega)])]
    exact Nat.le_trans (Nat.le_of_eq this) (b4 x)
  · obtain ⟨g1, g2, g3⟩ := ge b hb
    refine ⟨fun s hs => by show cbv (cs_n σ) _ _ _ _ ≤ _; rw [cbt]; exact g1 s hs, fun i hi hbi hp => ?_, fun i i' hi hi' hii hbi hbi' hp => ?_⟩
    · show _ < cbv (cs_n σ) _ _ _ _
      rw [cbt]
      rw [ep] at hp ⊢
      rw [eb] at hbi
      exact g2 _ (lt hi) hbi hp
    · rw [ep] at hp ⊢
      rw [eb] at hbi hbi'
      exact g3 _ _ (lt hi) (lt hi') (fun w => hii (by
        have := congrArg (tau j k) w
        rwa [tau_tau hjk, tau_tau hjk] at this)) hbi hbi' hp
  · have h0 : ¬ cs_yf σ b 0 = 0 := h0
    obtain ⟨js, c, m, w, hB, hV⟩ := pk b hb h0
    refine ⟨js, c, m, w, hB.fr ?_, hV⟩
    have nj : ¬ cbe σ j = nI b := fun w => h0 (hpj b hb w)
    have nk : ¬ cbe σ k = nI b := fun w => h0 (hpk b hb w)
    rw [eb, ep]
    refine ⟨Nat.le_refl _, fun i hi hbi => ?_, fun i hi hbi => ?_⟩
    · have hbi : cbe σ (tau j k i) = nI b := hbi
      have e1 : i ≠ j := fun w => nk (by rw [w, tau_j] at hbi; exact hbi)
      have e2 : i ≠ k := fun w => nj (by rw [w, tau_k hjk] at hbi; exact hbi)
      show _ ∧ _ ∧ cpl σ (tau j k i) = cpl σ i
      rw [tau_n e1 e2] at hbi ⊢
      exact ⟨hi, hbi, rfl⟩
    · have e1 : i ≠ j := fun w => nj (w ▸ hbi)
      have e2 : i ≠ k := fun w => nk (w ▸ hbi)
      show cbe σ (tau j k i) = nI b ∧ cpl σ (tau j k i) = cpl σ i
      rw [tau_n e1 e2]
      exact ⟨hbi, rfl⟩
theorem Inv.swap (h : Inv σ) (x y : Int32) : Inv (of_swap σ x y).2.2 := by
  have hn := h.1.2.2.2.2
  have hnb := h.1.2.1
  unfold of_swap
  split
  · rename_i j k hj hk
    obtain ⟨rfl, hj2⟩ := cs_xq_i hj hn
    obtain ⟨rfl, hk2⟩ := cs_xq_i hk hn
    split
    · exact h
    · rename_i q
      obtain ⟨bj, hbj, ej⟩ := h.2.1 j hj2
      obtain ⟨bk, hbk, ek⟩ := h.2.1 k hk2
      rw [ej, ek, nI_clamp (by omega), nI_clamp (by omega)]
      refine ((h.fp bj).fp bk).sw hj2 hk2 (fun w => q (Or.inl (congrArg nI w))) (fun b hb e => ?_) (fun b hb e => ?_) (fun w => q (Or.inr (Or.inr (Or.inr (Or.inr (Or.inl w)))))) (fun w => q (Or.inr (Or.inr (Or.inr (Or.inr (Or.inr w))))))
      · have e2 : nI bj = nI b := ej.symm.trans e
        have hb : b < cs_nb σ := hb
        have := (nI_eq (by omega) (by omega)).mp e2
        exact cs_fp2_0 σ bj bk b (Or.inl this.symm)
      · have e2 : nI bk = nI b := ek.symm.trans e
        have hb : b < cs_nb σ := hb
        have := (nI_eq (by omega) (by omega)).mp e2
        exact cs_fp2_0 σ bj bk b (Or.inr this.symm)
  · exact h
theorem Inv.nw (h : Inv σ) {b s : Nat} (hb : b < cs_nb σ) (hs3 : s < 3) (hlt : cs_n σ < 16) (h0 : cs_yf σ b 0 = 0) {f : Nat → Int32} (f1 : f 1 = nI b) (f2 : f 2 = nI s) (f3 : f 3 = nI (cbv (cs_n σ) (cbe σ) (cpl σ) (nI b) s)) (f4 : f 4 = 0) (hc : cbv (cs_n σ) (cbe σ) (cpl σ) (nI b) s < cs_ti σ) (hct : pn_ct (fun j => decide (cs_bf σ j 1 = nI b ∧ ¬ cs_bf σ j 2 = 3)) (cs_n σ) < 4) : Inv (cs_nw σ f) := by
  obtain ⟨bd, ib, rg, er, n1, pp, hz, b4, ge, pk, pb⟩ := h
  obtain ⟨bd1, bd2, bd3, bd4, bd5⟩ := bd
  generalize hT : cbv (cs_n σ) (cbe σ) (cpl σ) (nI b) s = T at *
  have bk' : cs_bf (cs_nw σ f) (cs_n σ) = f := va_up_self (cs_bf σ) _ _
  have bn : ∀ i, i ≠ cs_n σ → cs_bf (cs_nw σ f) i = cs_bf σ i := fun i hi => va_up_ne (cs_bf σ) _ hi
  have hN : cs_n (cs_nw σ f) = cs_n σ + 1 := rfl
  have n3 : ¬ f 2 = 3 := by
    rw [f2]
    intro w
    have := (nI_eq (b := 3) (by omega) (by omega)).mp w
    omega
  have n4 : ¬ f 2 = 4 := by
    rw [f2]
    intro w
    have := (nI_eq (b := 4) (by omega) (by omega)).mp w
    omega
  have en : cbe (cs_nw σ f) (cs_n σ) = nI b := by
    unfold cbe
    rw [bk']
    exact f1
  have eo : ∀ i, i ≠ cs_n σ → cbe (cs_nw σ f) i = cbe σ i := fun i hi => by
    unfold cbe
    rw [bn i hi]
  have pn : cpl (cs_nw σ f) (cs_n σ) = s * 4 + T := by
    unfold cpl plc
    rw [bk', if_neg n3, if_neg n4, f2, f3, nI_clamp (by omega), nI_clamp (by omega)]
  have po : ∀ i, i ≠ cs_n σ → cpl (cs_nw σ f) i = cpl σ i := fun i hi => by
    unfold cpl plc
    rw [bn i hi]
  have same : ∀ x, x ≠ nI b → Same (cs_n σ) (cs_n σ + 1) (cbe σ) (cbe (cs_nw σ f)) (cpl σ) (cpl (cs_nw σ f)) x := fun x hx => by
    refine ⟨by omega, fun i hi hbi => ?_, fun i hi hbi => ?_⟩
    · have e : i ≠ cs_n σ := fun w => hx (by rw [w, en] at hbi; exact hbi.symm)
      rw [eo i e] at hbi
      exact ⟨by omega, hbi, po i e⟩
    · have e : i ≠ cs_n σ := by omega
      exact ⟨(eo i e).trans hbi, po i e⟩
  have cbo : ∀ s', cbv (cs_n σ) (cbe (cs_nw σ f)) (cpl (cs_nw σ f)) (nI b) s' = cbv (cs_n σ) (cbe σ) (cpl σ) (nI b) s' := fun s' => pn_ct_cg _ (fun i hi => by rw [eo i (by omega), po i (by omega)])
  have cbn : ∀ s', cbv (cs_n σ + 1) (cbe (cs_nw σ f)) (cpl (cs_nw σ f)) (nI b) s' = cbv (cs_n σ) (cbe σ) (cpl σ) (nI b) s' + if s' = s then 1 else 0 := fun s' => by
    rw [← cbo]
    by_cases e : s' = s
    · rw [if_pos e]
      exact pn_ct_t (decide_eq_true ⟨en, by rw [pn]; omega⟩)
    · rw [if_neg e]
      exact pn_ct_f (decide_eq_false (fun w => e (by have := w.2; rw [pn] at this; omega)))
  refine ⟨⟨bd1, bd2, bd3, bd4, show cs_n σ + 1 ≤ 16 by omega⟩, fun i hi => ?_, fun i hi => ?_, fun i hi => ?_, fun x y hx hxy => ?_, pp, hz, fun x => ?_, fun b' hb' => ?_, fun b' hb' h0' => ?_, fun b' hb' h0' i hi hi2 => ?_⟩
  · by_cases e : i = cs_n σ
    · rw [e, bk']
      exact ⟨b, hb, f1⟩
    · rw [bn i e]
      exact ib i (by rw [hN] at hi; omega)
  · by_cases e : i = cs_n σ
    · rw [e, bk']
      exact Or.inr (Or.inr ⟨s, T, hs3, by omega, f2, f3⟩)
    · rw [bn i e]
      exact rg i (by rw [hN] at hi; omega)
  · by_cases e : i = cs_n σ
    · rw [e, bk']
      exact ⟨0, by omega, f4, fun q _ _ => Nat.zero_testBit q⟩
    · rw [bn i e]
      obtain ⟨m, hm, hbm, hm2⟩ := er i (by rw [hN] at hi; omega)
      exact ⟨m, hm, hbm, fun q hq hq2 => hm2 q (by rw [hN] at hq; omega) hq2⟩
  · obtain ⟨hy, hxy⟩ := hxy
    rw [hN] at hx hy
    by_cases ey : y = cs_n σ
    · rw [ey, bk', f4] at hxy
      have z : ∀ i, i < 17 → ((0 : Int32) >>> (nI i &&& 31)) &&& 1 = 0 := by decide +kernel
      exact absurd (z x (by omega)) hxy
    · rw [bn y ey] at hxy
      obtain ⟨m, hm, hbm, hm2⟩ := er y (by omega)
      by_cases ex : x = cs_n σ
      · rw [hbm, ie_bit hm (by omega)] at hxy
        exact absurd (hm2 x (by omega) (by omega)) hxy
      · rw [bn x ex, bn y ey]
        exact n1 x y (by omega) ⟨by omega, hxy⟩
  · have e : pn_ct (fun j => decide (cs_bf (cs_nw σ f) j 1 = x ∧ ¬ cs_bf (cs_nw σ f) j 2 = 3)) (cs_n σ) = pn_ct (fun j => decide (cs_bf σ j 1 = x ∧ ¬ cs_bf σ j 2 = 3)) (cs_n σ) := pn_ct_cg _ (fun i hi => by rw [bn i (by omega)])
    show pn_ct _ (cs_n σ + 1) ≤ 4
    by_cases hx : x = nI b
    · rw [pn_ct_t (decide_eq_true ⟨by rw [bk', hx]; exact f1, by rw [bk']; exact n3⟩), e, hx]
      omega
    · rw [pn_ct_f (decide_eq_false (fun w => hx (by have := w.1; rw [bk', f1] at this; exact this.symm))), e]
      exact b4 x
  · by_cases e : b' = b
    · subst e
      obtain ⟨g1, g2, g3⟩ := ge b' hb
      show Geo (cs_n σ + 1) (cs_ti σ) _ _ _
      refine ⟨fun s' hs' => ?_, fun i hi hbi hp => ?_, fun i i' hi hi' hii hbi hbi' hp => ?_⟩
      · rw [cbn]
        have := g1 s' hs'
        by_cases e : s' = s
        · rw [if_pos e, e]
          omega
        · rw [if_neg e]
          exact this
      · rw [cbn]
        by_cases e : i = cs_n σ
        · rw [e, pn]
          have e1 : (s * 4 + T) / 4 = s := by omega
          rw [e1, if_pos rfl, hT]
          omega
        · rw [po i e] at hp ⊢
          rw [eo i e] at hbi
          have := g2 i (by omega) hbi hp
          omega
      · by_cases e : i = cs_n σ
        · have e' : i' ≠ cs_n σ := fun w => hii (e.trans w.symm)
          rw [e, pn, po i' e']
          rw [eo i' e'] at hbi'
          intro w
          have := g2 i' (by omega) hbi' (by omega)
          rw [w, show (s * 4 + T) / 4 = s by omega, hT] at this
          omega
        · by_cases e' : i' = cs_n σ
          · rw [e', pn, po i e]
            rw [po i e] at hp
            rw [eo i e] at hbi
            intro w
            have := g2 i (by omega) hbi hp
            rw [← w, show (s * 4 + T) / 4 = s by omega, hT] at this
            omega
          · rw [po i e, po i' e']
            rw [po i e] at hp
            rw [eo i e] at hbi
            rw [eo i' e'] at hbi'
            exact g3 i i' (by omega) (by omega) hii hbi hbi' hp
    · have hb' : b' < cs_nb σ := hb'
      exact (ge b' hb').fr (same (nI b') (fun w => e ((nI_eq (by omega) (by omega)).mp w)))
  · have hb' : b' < cs_nb σ := hb'
    have h0' : ¬ cs_yf σ b' 0 = 0 := h0'
    have e : b' ≠ b := fun w => h0' (w ▸ h0)
    obtain ⟨js, c, m, w, hB, hV⟩ := pk b' hb' h0'
    exact ⟨js, c, m, w, hB.fr (same (nI b') (fun w => e ((nI_eq (by omega) (by omega)).mp w))), hV⟩
  · obtain ⟨j, t, hj, ht, q⟩ := pb b' hb' h0' i hi hi2
    exact ⟨j, t, show j < cs_n σ + 1 by omega, ht, q⟩
theorem Inv.box (h : Inv σ) (x y z : Int32) : Inv (of_box σ x y z).2.2 := by
  have hn := h.1.2.2.2.2
  have hnb := h.1.2.1
  have ht4 := h.1.2.2.2.1
  unfold of_box
  split
  · exact h
  · rename_i b hb
    obtain ⟨rfl, hb2⟩ := cs_bq_i hb hnb
    split
    · exact h
    · rename_i q
      split
      · exact h
      · rename_i r
        obtain ⟨s, hs3, rfl⟩ := px_ix2 (x := y) (n := 3) ⟨fun w => q (Or.inl w), fun w => q (Or.inr (Or.inl w))⟩ (by omega)
        have hg := hgt_cb h.2.2.1 b hs3
        have hcl := (h.2.2.2.2.2.2.2.2.1 b hb2).1 s hs3
        have hlt : cs_n σ < 16 := Nat.lt_of_not_le (fun w => r (Or.inl (by rw [show cs_n σ = 16 by omega]; decide +kernel)))
        refine (h.fp b).nw (b := b) (s := s) hb2 hs3 hlt (cs_fp_0 σ b) rfl rfl hg rfl ?_ ?_
        · refine Nat.lt_of_le_of_ne hcl (fun w => r (Or.inr (Or.inr ?_)))
          rw [hg]
          have w : cbv (cs_n σ) (cbe σ) (cpl σ) (nI b) s = cs_ti σ := w
          rw [w]
          exact Int32.lt_irrefl
        · refine Nat.lt_of_not_le (fun w => r (Or.inr (Or.inl ?_)))
          have := h.2.2.2.2.2.2.2.1 (nI b)
          show (4 : Int32) ≤ nI (pn_ct (fun j => decide (cs_bf σ j 1 = nI b ∧ ¬ cs_bf σ j 2 = 3)) (cs_n σ))
          exact nI_le (a := 4) w (by omega)
end IB
