/-! What holds between calls: work, plan. -/
section IC
variable {σ : ck_S}
theorem Inv.sM (h : Inv σ) (mw lg : Int32) : Inv (cs_sM σ mw lg) := by
  obtain ⟨bd, ib, rg, er, n1, pp, hz, b4, ge, pk, pb⟩ := h
  exact ⟨bd, ib, rg, er, n1, pp, hz, b4, ge, pk, pb⟩
theorem Inv.jk (h : Inv σ) (J : cs_J) (hJ : ∀ r, r < 1024 → J.2.1 r = 0) : Inv (cs_jk σ J) := by
  obtain ⟨bd, ib, rg, er, n1, pp, hz, b4, ge, pk, pb⟩ := h
  exact ⟨bd, ib, rg, er, n1, pp, hJ, b4, ge, pk, pb⟩
def cs_wg (σ : ck_S) (j : Nat) (t to : Int32) : Nat → Int32 := fun q => match q with | 0 => cs_bf σ j 0 | 1 => cs_bf σ j 1 | 2 => to | 3 => t | _ => cs_bf σ j 4
theorem spl_lt {n c to : Nat} (hto : to < 5) : spl n c to < 16 := by
  unfold spl
  have := hs_le c to n
  rw [nbd, nbd]
  by_cases h4 : to = 4
  · rw [decide_eq_true h4]
    show 13 < 16
    omega
  · rw [decide_eq_false h4]
    by_cases h3 : to = 3
    · rw [decide_eq_true h3]
      show 12 < 16
      omega
    · rw [decide_eq_false h3]
      show to * 4 + hs c to n < 16
      rcases Nat.lt_or_ge to 3 with q | q
      · omega
      · omega
theorem Inv.wk (h : Inv σ) {b m w j : Nat} {z : Int32} (hb : b < cs_nb σ) (h0 : ¬ cs_yf σ b 0 = 0) (hm : cs_yf σ b 1 = nI m) (hw : cs_yf σ b 2 = nI w) (hwm : w < m) (hm12 : m ≤ 12) (hj : cs_ya σ b 0 w = nI j) (hjn : j < cs_n σ) (hz2 : cs_ya σ b 2 w = z) {F : Nat → Nat → Int32} (F0 : ∀ c, F c 0 = cs_yf σ c 0) (F1 : ∀ c, F c 1 = cs_yf σ c 1) (F2 : F b 2 = nI (w + 1)) (F3 : ∀ c, c ≠ b → F c 2 = cs_yf σ c 2) : Inv (cs_sYF (cs_sB σ j (cs_wg σ j (cs_wt σ (nI b) z) z)) F) := by
  obtain ⟨bd, ib, rg, er, n1, pp, hz, b4, ge, pk, pb⟩ := h
  obtain ⟨bd1, bd2, bd3, bd4, bd5⟩ := bd
  obtain ⟨js, c, m2, w2, hB, hV, e1, e2, hwm2, hm2, hP⟩ := pk b hb h0
  obtain rfl : m2 = m := (nI_eq (by omega) (by omega)).mp (e1.symm.trans hm)
  obtain rfl : w2 = w := (nI_eq (by omega) (by omega)).mp (e2.symm.trans hw)
  rw [show m2 - w2 = (m2 - (w2 + 1)) + 1 by omega] at hP
  obtain ⟨y, hy, y0, y2, hP⟩ := hP
  have hB' := hB
  obtain ⟨h4, hc, hi, hmm, hcov⟩ := hB'
  obtain ⟨a1, a2, a3, a4, a5⟩ := suc_all h4 hy
  have hv' := hV.nx h4 bd4 hy
  have hjk := hmm _ _ (jn_some a2)
  obtain rfl : j = jn js (y.2 / 64) := (nI_eq (by omega) (by omega)).mp (hj.symm.trans y0)
  have ez : z = nI (y.2 % 8) := hz2.symm.trans y2
  subst ez
  generalize hkk : y.2 / 64 = k at *
  generalize htt : y.2 % 8 = to at *
  have hbj : cs_bf σ (jn js k) 1 = nI b := hjk.2.1
  have bs : cs_bf (cs_sYF (cs_sB σ (jn js k) (cs_wg σ (jn js k) (cs_wt σ (nI b) (nI to)) (nI to))) F) (jn js k) = cs_wg σ (jn js k) (cs_wt σ (nI b) (nI to)) (nI to) := va_up_self (cs_bf σ) _ _
  have bn : ∀ i, i ≠ jn js k → cs_bf (cs_sYF (cs_sB σ (jn js k) (cs_wg σ (jn js k) (cs_wt σ (nI b) (nI to)) (nI to))) F) i = cs_bf σ i := fun i hi => va_up_ne (cs_bf σ) _ hi
  generalize hσ : cs_sYF (cs_sB σ (jn js k) (cs_wg σ (jn js k) (cs_wt σ (nI b) (nI to)) (nI to))) F = σ' at *
  have s1 : σ'.1 = σ.1 := by rw [← hσ]; rfl
  have s2 : cs_yf σ' = F := by rw [← hσ]; rfl
  have s3 : cs_ya σ' = cs_ya σ := by rw [← hσ]; rfl
  have s4 : cs_sn σ' = cs_sn σ := by rw [← hσ]; rfl
  have sn : cs_n σ' = cs_n σ := by unfold cs_n; rw [s1]
  have st : cs_ti σ' = cs_ti σ := by unfold cs_ti; rw [s1]
  have sb : cs_nb σ' = cs_nb σ := by unfold cs_nb; rw [s1]
  have hcb : to < 3 → cs_hgt σ (nI b) (nI to) = nI (hs c to js.length) := fun q => by rw [hgt_cb rg b q, hB.cn q, hV.hc h4 q]
  have hwt : to < 3 → cs_wt σ (nI b) (nI to) = nI (hs c to js.length) := fun q => by
    unfold cs_wt
    exact (if_neg (nI_ge (b := 3) q (by omega))).trans (hcb q)
  have pj : cpl σ' (jn js k) = spl js.length c to := by
    unfold cpl plc spl
    rw [bs, nbd, nbd]
    show (if nI to = 3 then 12 else if nI to = 4 then 13 else (nI to).toNatClampNeg * 4 + (cs_wt σ (nI b) (nI to)).toNatClampNeg) = _
    by_cases q4 : to = 4
    · rw [q4]
      rfl
    · by_cases q3 : to = 3
      · rw [q3]
        rfl
      · have hl := hs_le c to js.length
        have w3 : ¬ nI to = 3 := fun w => q3 ((nI_eq (b := 3) (by omega) (by omega)).mp w)
        have w4 : ¬ nI to = 4 := fun w => q4 ((nI_eq (b := 4) (by omega) (by omega)).mp w)
        rw [decide_eq_false q4, decide_eq_false q3, if_neg w3, if_neg w4, hwt (by omega), nI_clamp (by omega), nI_clamp (by omega)]
        rfl
  have po : ∀ i, i ≠ jn js k → cpl σ' i = cpl σ i := fun i hi => by
    unfold cpl plc
    rw [bn i hi]
  have eb : ∀ i, cbe σ' i = cbe σ i := fun i => by
    unfold cbe
    by_cases e : i = jn js k
    · rw [e, bs]
      rfl
    · rw [bn i e]
  have b4' : ∀ i, cs_bf σ' i 4 = cs_bf σ i 4 := fun i => by
    by_cases e : i = jn js k
    · rw [e, bs]
      rfl
    · rw [bn i e]
  have nout : ¬ cs_bf σ (jn js k) 2 = 3 := fun w => a3 (by
    rw [hjk.2.2]
    unfold cpl
    rw [if_pos w])
  have same : ∀ x, x ≠ nI b → Same (cs_n σ) (cs_n σ') (cbe σ) (cbe σ') (cpl σ) (cpl σ') x := fun x hx => by
    refine ⟨Nat.le_of_eq sn.symm, fun i hi hbi => ?_, fun i hi hbi => ?_⟩
    · rw [eb i] at hbi
      have e : i ≠ jn js k := fun w => hx (by rw [w] at hbi; exact hbi.symm.trans hbj)
      exact ⟨by omega, hbi, po i e⟩
    · have e : i ≠ jn js k := fun w => hx (by rw [w] at hbi; exact hbi.symm.trans hbj)
      exact ⟨(eb i).trans hbi, po i e⟩
  have hB2 : Bc (cs_n σ') (cbe σ') (cpl σ') (nI b) js y.1 := by
    refine ⟨h4, hv'.c16 h4, hi, fun k' j' hk' => ?_, fun j' hj' hb' hp' => ?_⟩
    · obtain ⟨q1, q2, q3⟩ := hmm k' j' hk'
      have hk4 := (List.getElem?_eq_some_iff.mp hk').1
      refine ⟨by omega, (eb j').trans q2, ?_⟩
      rw [a1]
      by_cases e : k' = k
      · rw [e] at hk' ⊢
        rw [← jn_at hk', pj, pl_wp (by omega) (spl_lt a4)]
      · rw [pl_wn (by omega) (spl_lt a4) (by omega) e, po j' (fun w => e (hi k' k j' hk' (by rw [w]; exact jn_some a2)))]
        exact q3
    · rw [eb j'] at hb'
      by_cases e : j' = jn js k
      · exact ⟨k, by rw [e]; exact jn_some a2⟩
      · exact hcov j' (by omega) hb' (by rw [← po j' e]; exact hp')
  refine ⟨by unfold cs_bd; rw [sn, st, sb]; exact ⟨bd1, bd2, bd3, bd4, bd5⟩, fun i hi' => ?_, fun i hi' => ?_, fun i hi' => ?_, fun x y' hx hxy => ?_, fun b' hb' => ?_, fun r hr => by rw [s4]; exact hz r hr, fun x => ?_, fun b' hb' => ?_, fun b' hb' h0' => ?_, fun b' hb' h0' i hi' hi2 => ?_⟩
  · rw [sb]
    obtain ⟨b2, hb2, e⟩ := ib i (by omega)
    exact ⟨b2, hb2, (eb i).trans e⟩
  · by_cases e : i = jn js k
    · rw [e, bs]
      show nI to = 3 ∨ nI to = 4 ∨ ∃ s t : Nat, s < 3 ∧ t < 4 ∧ nI to = nI s ∧ cs_wt σ (nI b) (nI to) = nI t
      by_cases q3 : to = 3
      · exact Or.inl (by rw [q3]; rfl)
      · by_cases q4 : to = 4
        · exact Or.inr (Or.inl (by rw [q4]; rfl))
        · have q : to < 3 := by omega
          exact Or.inr (Or.inr ⟨to, _, q, by have := a5 q; omega, rfl, hwt q⟩)
    · rw [bn i e]
      exact rg i (by omega)
  · rw [b4' i, sn]
    exact er i (by omega)
  · obtain ⟨hy1, hy2⟩ := hxy
    rw [b4' y'] at hy2
    show cbe σ' x = cbe σ' y'
    rw [eb, eb]
    exact n1 x y' (by omega) ⟨by omega, hy2⟩
  · rw [s2]
    rw [sb] at hb'
    by_cases e : b' = b
    · subst e
      exact ⟨m2, w2 + 1, (F1 b').trans hm, F2, by omega, hm12, fun w => absurd ((F0 b').symm.trans w) h0⟩
    · rw [F0, F1, F3 b' e]
      exact pp b' hb'
  · rw [sn]
    refine Nat.le_trans (pn_ct_im _ (fun i hi' hp => ?_)) (b4 x)
    have hp := of_decide_eq_true hp
    refine decide_eq_true ⟨(eb i).symm.trans hp.1, ?_⟩
    by_cases e : i = jn js k
    · rw [e]
      exact nout
    · rw [bn i e] at hp
      exact hp.2
  · rw [sb] at hb'
    rw [st]
    by_cases e : b' = b
    · subst e
      exact hB2.geo hv'
    · exact (ge b' hb').fr (same (nI b') (fun w => e ((nI_eq (by omega) (by omega)).mp w)))
  · rw [sb] at hb'
    rw [s2, F0] at h0'
    rw [s2, s3, st, F1]
    by_cases e : b' = b
    · subst e
      exact ⟨js, y.1, m2, w2 + 1, hB2, hv', hm, F2, by omega, hm12, hP⟩
    · rw [F3 b' e]
      obtain ⟨js', c', m', w', hB', hV'⟩ := pk b' hb' h0'
      exact ⟨js', c', m', w', hB'.fr (same (nI b') (fun w => e ((nI_eq (by omega) (by omega)).mp w))), hV'⟩
  · rw [sb] at hb'
    rw [s2, F0] at h0'
    rw [s2, F1] at hi2
    rw [s3, sn]
    exact pb b' hb' h0' i hi' hi2
theorem Inv.work (h : Inv σ) (x : Int32) : Inv (of_work σ x).2.2 := by
  have hn := h.1.2.2.2.2
  have hnb := h.1.2.1
  unfold of_work
  split
  · exact h
  · rename_i b hb
    obtain ⟨rfl, hb2⟩ := cs_bq_i hb hnb
    obtain ⟨m, w, e1, e2, hwm, hm12, -⟩ := h.2.2.2.2.2.1 b hb2
    split
    · exact h
    · rename_i q
      split
      · exact h
      · rename_i j hj
        obtain ⟨ej, hjn⟩ := cs_xq_i hj hn
        have hlt : w < m := Nat.lt_of_not_le (fun z => q (Or.inr (Or.inr (Or.inl (by rw [e1, e2]; exact nI_le z (by omega))))))
        have ew : (cs_yf σ b 2).toNatClampNeg = w := by rw [e2]; exact nI_clamp (by omega)
        rw [ew] at ej ⊢
        have key : ∀ F : Nat → Nat → Int32, (∀ c, F c 0 = cs_yf σ c 0) → (∀ c, F c 1 = cs_yf σ c 1) → F b 2 = nI (w + 1) → (∀ c, c ≠ b → F c 2 = cs_yf σ c 2) → Inv (cs_sYF (cs_sB σ j (cs_wg σ j (cs_wt σ (nI b) (cs_ya σ b 2 w)) (cs_ya σ b 2 w))) F) := fun F F0 F1 F2 F3 =>
          h.wk hb2 (fun z => q (Or.inl z)) e1 e2 hlt hm12 ej hjn rfl F0 F1 F2 F3
        unfold of_wk
        split
        · refine (key (va_up (va_up (cs_yf σ) b (fun q => match q with | 0 => cs_yf σ b 0 | 1 => cs_yf σ b 1 | 2 => cs_yf σ b 2 + 1 | _ => cs_yf σ b 3)) b (fun q => match q with | 0 => cs_yf σ b 0 | 1 => cs_yf σ b 1 | 2 => cs_yf σ b 2 + 1 | _ => cs_yf σ b 3 - 1)) (fun c => ?_) (fun c => ?_) ?_ (fun c hc => ?_)).sM _ _
          · by_cases hc : c = b
            · rw [hc, va_up_self]
              rfl
            · rw [va_up_ne _ _ hc, va_up_ne _ _ hc]
          · by_cases hc : c = b
            · rw [hc, va_up_self]
              rfl
            · rw [va_up_ne _ _ hc, va_up_ne _ _ hc]
          · rw [va_up_self]
            show cs_yf σ b 2 + 1 = _
            rw [e2, nI_succ]
          · rw [va_up_ne _ _ hc, va_up_ne _ _ hc]
        · refine (key (va_up (cs_yf σ) b (fun q => match q with | 0 => cs_yf σ b 0 | 1 => cs_yf σ b 1 | 2 => cs_yf σ b 2 + 1 | _ => cs_yf σ b 3)) (fun c => ?_) (fun c => ?_) ?_ (fun c hc => ?_)).sM _ _
          · by_cases hc : c = b
            · rw [hc, va_up_self]
              rfl
            · rw [va_up_ne _ _ hc]
          · by_cases hc : c = b
            · rw [hc, va_up_self]
              rfl
            · rw [va_up_ne _ _ hc]
          · rw [va_up_self]
            show cs_yf σ b 2 + 1 = _
            rw [e2, nI_succ]
          · rw [va_up_ne _ _ hc]
end IC
