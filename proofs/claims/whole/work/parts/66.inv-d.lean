/-! What holds between calls: plan. -/
section ID
variable {σ1 : ck_S} {n c0 : Nat}
/-- the plan that was told can be worked -/
theorem plan_T (hn : n ≤ 4) (t4 : cs_ti σ1 ≤ 4) (t1 : 1 ≤ cs_ti σ1) (h0 : Vd n (cs_ti σ1) c0) {e : Nat} (hS : (cs_F σ1 n c0).2 = e + 1) {b L : Nat} {Y : Nat → Nat → Nat → Int32} (hT : Told σ1 (cs_F σ1 n c0) e b L Y) {js : List Nat} (hjl : js.length = n) (hsa : ∀ k, k < n → cs_sa σ1 0 k = nI (jn js k)) :
    L ≤ 12 ∧ Pt (Y b 0) (Y b 2) js (cs_ti σ1) L 0 c0 ∧ ∀ i, i < L → ∃ k t, k < n ∧ t < 5 ∧ Y b 0 i = nI (jn js k) ∧ Y b 2 i = nI t := by
  have hR := cs_Rq hn t4 h0
  have hQo := Qo.f (fun c => suc n (cs_ti σ1) (mgc σ1 n c) c) c0 1240
  have hz0 : (fq (fun c => suc n (cs_ti σ1) (mgc σ1 n c) c) c0 1240)[0]? = some (c0, 0, 0) := pre_at (fq_pre _ c0 (Nat.zero_le 1240)) rfl
  have hd0 := fun (y : qE) (q1 : _) (q3 : _) (q2 : _) => end12 (n := n) (t := cs_ti σ1) (mg := mgc σ1 n) (ep := cs_en σ1 n) (e := e) (y := y) hn t4 t1 (fun c c' h => mgc_c h) h0 q1 q3 q2
  generalize fq (fun c => suc n (cs_ti σ1) (mgc σ1 n c) c) c0 1240 = Z at *
  rcases hR with ⟨q0, -, -⟩ | ⟨e', x, q0, q1, q2, q3, q4, q5⟩
  · omega
  · obtain rfl : e' = e := by omega
    have hSZ : ∀ i, i ≤ e' → Z[i]? = (cs_F σ1 n c0).1[i]? := fun i hi => pre_at2 q2 (by omega)
    have hd := hd0 x (by rw [hSZ e' (Nat.le_refl _)]; exact q3) q4 (fun i z hi hz => q5 i z hi (by rw [← hSZ i (by omega)]; exact hz))
    have has := anc_pre q2 (fun i x hx => by
      have hi := (List.getElem?_eq_some_iff.mp hx).1
      exact (hQo.1 i x (by rw [hSZ i (by omega)]; exact hx)).2.1) (e := e') (by omega)
    obtain ⟨t1', t2, t3, t4', t5⟩ := hT
    generalize hQ : (cs_F σ1 n c0).1 = Q at *
    have hL0 : anc Q e' L = 0 := by
      rcases t3 with w | w
      · exact w
      · obtain ⟨j0, hj0, hd⟩ := hd
        rw [(has j0).2] at hd
        rcases Nat.lt_or_ge j0 L with q | q
        · have := t2 j0 q
          omega
        · rw [show L = j0 by omega]
          exact hd
    have step : ∀ j, j < L → ∃ (x z : qE), Q[anc Q e' j]? = some x ∧ Q[anc Q e' (j + 1)]? = some z ∧ (x.1, x.2.2) ∈ suc n (cs_ti σ1) (mgc σ1 n z.1) z.1 := fun j hj => by
      have hle := (has j).1
      obtain ⟨x, hx⟩ : ∃ x, Q[anc Q e' j]? = some x := ⟨_, List.getElem?_eq_getElem (by omega)⟩
      have hxZ : Z[anc Q e' j]? = some x := by rw [hSZ _ hle]; exact hx
      obtain ⟨-, hp, q⟩ := hQo.1 _ x hxZ
      obtain ⟨-, z, hz, hm⟩ := q (t2 j hj)
      have e1 := anc_s hx
      refine ⟨x, z, hx, ?_, hm⟩
      rw [e1, ← hSZ _ (by omega)]
      exact hz
    have val : ∀ j, j < L → ∀ x z : qE, Q[anc Q e' j]? = some x → (x.1, x.2.2) ∈ suc n (cs_ti σ1) (mgc σ1 n z.1) z.1 → x.2.2 / 64 < n ∧ x.2.2 % 8 < 5 ∧ Y b 0 (L - 1 - j) = nI (jn js (x.2.2 / 64)) ∧ Y b 2 (L - 1 - j) = nI (x.2.2 % 8) := fun j hj x z hx hm => by
      obtain ⟨-, hk, -, ht, -⟩ := suc_all hn hm
      obtain ⟨y0, -, y2⟩ := t5 j x hj hx
      have hk : x.2.2 / 64 < n := hk
      rw [show x.2.2 / 64 % 4 = x.2.2 / 64 by omega, hsa _ hk] at y0
      exact ⟨hk, ht, y0, y2⟩
    have path : ∀ r i, i + r = L → ∀ x : qE, Q[anc Q e' r]? = some x → Pt (Y b 0) (Y b 2) js (cs_ti σ1) r i x.1 := fun r => by
      induction r with
      | zero => intro i hi x hx; exact trivial
      | succ r ih =>
        intro i hi z hz
        obtain ⟨x, z', hx, hz', hm⟩ := step r (by omega)
        rw [hz] at hz'
        cases hz'
        obtain ⟨v1, v2, v3, v4⟩ := val r (by omega) x z hx hm
        rw [show L - 1 - r = i by omega] at v3 v4
        refine ⟨(x.1, x.2.2), ?_, v3, v4, ih (i + 1) (by omega) x hx⟩
        rw [hjl]
        exact suf_suc (suc_sub t4 _ hm) (fun w => (suc_all hn hm).2.2.2.2 w) (fun _ => rfl) hn
    refine ⟨t1', ?_, fun i hi => ?_⟩
    · have := path L 0 (Nat.zero_add L) (c0, 0, 0) (by rw [hL0, ← hSZ 0 (Nat.zero_le _)]; exact hz0)
      exact this
    · obtain ⟨x, z, hx, hz, hm⟩ := step (L - 1 - i) (by omega)
      obtain ⟨v1, v2, v3, v4⟩ := val (L - 1 - i) (by omega) x z hx hm
      rw [show L - 1 - (L - 1 - i) = i by omega] at v3 v4
      exact ⟨_, _, v1, v2, v3, v4⟩
end ID
section IE
variable {σ : ck_S}
theorem Inv.plan (h : Inv σ) {σ1 : ck_S} {b c0 e L : Nat} {Y : Nat → Nat → Nat → Int32} (hb : b < cs_nb σ) (hA : Ad σ σ1 (bjs σ (nI b) (cs_n σ)) c0) (hS : (cs_F σ1 (bjs σ (nI b) (cs_n σ)).length c0).2 = e + 1) (hT : Told σ1 (cs_F σ1 (bjs σ (nI b) (cs_n σ)).length c0) e b L Y) : Inv (cs_yA (cs_sP σ b (nI L)) Y) := by
  have hv := h.vd hb hA
  have hB := hA.bc
  have hYo := hT.2.2.2.1
  have hA4 := hA.2.2.1
  have hAk := hA.2.2.2.2.2.2
  have hs1 : cs_ti σ1 = cs_ti σ ∧ cs_ya σ1 = cs_ya σ := by
    obtain ⟨⟨J0, rfl, -⟩, -⟩ := hA
    exact ⟨rfl, rfl⟩
  obtain ⟨bd, ib, rg, er, n1, pp, hz, b4, ge, pk, pb⟩ := h
  have hl := bd
  obtain ⟨bd1, bd2, bd3, bd4, bd5⟩ := hl
  rw [← hs1.1] at hv
  obtain ⟨hL, hP, hV⟩ := plan_T hA4 (by rw [hs1.1]; exact bd4) (by rw [hs1.1]; exact bd3) hv hS hT rfl (fun k hk => (hAk k _ (jn_some hk)).1)
  rw [hs1.1] at hP hv
  rw [hs1.2] at hYo
  refine ⟨bd, ib, rg, er, n1, fun c hc => ?_, hz, b4, ge, fun c hc h0 => ?_, fun c hc h0 i hi hi2 => ?_⟩
  · show ∃ m w : Nat, cs_yf (cs_sP σ b (nI L)) c 1 = nI m ∧ cs_yf (cs_sP σ b (nI L)) c 2 = nI w ∧ w ≤ m ∧ m ≤ 12 ∧ (cs_yf (cs_sP σ b (nI L)) c 0 = 0 → m = 0)
    by_cases e : c = b
    · subst e
      rw [cs_sP_0, cs_sP_1, cs_sP_2]
      exact ⟨L, 0, rfl, rfl, Nat.zero_le _, hL, fun w => absurd w (by decide)⟩
    · rw [cs_sPo σ _ e]
      exact pp c hc
  · have h0 : ¬ cs_yf (cs_sP σ b (nI L)) c 0 = 0 := h0
    show Pk (cs_n σ) (cs_ti σ) (cbe σ) (cpl σ) (nI c) (cs_yf (cs_sP σ b (nI L)) c 1) (cs_yf (cs_sP σ b (nI L)) c 2) (Y c 0) (Y c 2)
    by_cases e : c = b
    · subst e
      rw [cs_sP_1, cs_sP_2]
      exact ⟨_, c0, L, 0, hB, hv, rfl, rfl, Nat.zero_le _, hL, hP⟩
    · rw [cs_sPo σ _ e] at h0 ⊢
      rw [hYo c e]
      exact pk c hc h0
  · have h0 : ¬ cs_yf (cs_sP σ b (nI L)) c 0 = 0 := h0
    have hi2 : nI i < cs_yf (cs_sP σ b (nI L)) c 1 := hi2
    show ∃ j t : Nat, j < cs_n σ ∧ t < 5 ∧ Y c 0 i = nI j ∧ Y c 2 i = nI t
    by_cases e : c = b
    · subst e
      rw [cs_sP_1] at hi2
      obtain ⟨k, t, hk, ht, v0, v2⟩ := hV i ((nI_ltI (by omega) (by omega)).mp hi2)
      exact ⟨_, t, (bjs_at σ (nI c) (cs_n σ) k _ (jn_some hk)).1, ht, v0, v2⟩
    · rw [cs_sPo σ _ e] at h0 hi2
      rw [hYo c e]
      exact pb c hc h0 i hi hi2
end IE
