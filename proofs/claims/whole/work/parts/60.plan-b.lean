/-! The class's queue and the reference's; the plan that both tell. -/
section EU
variable {σ1 : ck_S} {n c0 : Nat}
theorem cs_Rq (hn : n ≤ 4) (t4 : cs_ti σ1 ≤ 4) (h0 : Vd n (cs_ti σ1) c0) : Rq (cs_en σ1 n) (cs_F σ1 n c0) (fq (fun c => suc n (cs_ti σ1) (mgc σ1 n c) c) c0 1240) := by
  have hV : ∀ c, Vd n (cs_ti σ1) c → ∀ y ∈ suc n (cs_ti σ1) (mgc σ1 n c) c, Vd n (cs_ti σ1) y.1 := fun c hc y hy => hc.nx hn t4 hy
  have h1 : Rq (cs_en σ1 n) (rch (cs_en σ1 n) ([], 0) (c0, 0, 0)) (fq (fun c => suc n (cs_ti σ1) (mgc σ1 n c) c) c0 0) := by
    have e : ad1 [] ((c0, 0, 0) : qE) = [(c0, 0, 0)] := if_neg (by simp [qc])
    have := Rq.r1 (ep := cs_en σ1 n) (S := ([], 0)) (Q := []) (Or.inl ⟨rfl, rfl, fun x hx => by cases hx⟩) (x := ((c0, 0, 0) : qE)) (fun w => absurd w (by decide))
    rw [e] at this
    exact this
  have h2 := Rq.b (V := Vd n (cs_ti σ1)) (l0 := LL n) (fun c hc => hc.1) (LL_len hn) (sc := fun c => suc n (cs_ti σ1) (mgc σ1 n c) c) h0 hV 1240 0 h1
  rw [Nat.zero_add] at h2
  exact h2
theorem mgc_c {c c' : Nat} (h : ∀ j, j < n → (pl c j = 12 ↔ pl c' j = 12)) : mgc σ1 n c = mgc σ1 n c' := by
  funext k
  unfold mgc
  rw [mgj_c n h]
/-- the way back from the end that was found -/
theorem plan_L (hn : n ≤ 4) (t4 : cs_ti σ1 ≤ 4) (t1 : 1 ≤ cs_ti σ1) (h0 : Vd n (cs_ti σ1) c0) {e : Nat} {y : qE} (he : e < 1240) (hy : (fq (fun c => suc n (cs_ti σ1) (mgc σ1 n c) c) c0 e)[e]? = some y) (hey : cs_en σ1 n y.1 = true)
    (hno : ∀ (i : Nat) (z : qE), i < e → (fq (fun c => suc n (cs_ti σ1) (mgc σ1 n c) c) c0 e)[i]? = some z → cs_en σ1 n z.1 = false) :
    (cs_F σ1 n c0).2 = e + 1 ∧ ∃ L, L ≤ 12 ∧ anc (fq (fun c => suc n (cs_ti σ1) (mgc σ1 n c) c) c0 e) e L = 0 ∧ (∀ j, j < L → 0 < anc (fq (fun c => suc n (cs_ti σ1) (mgc σ1 n c) c) c0 e) e j) ∧ (∀ j, anc (fq (fun c => suc n (cs_ti σ1) (mgc σ1 n c) c) c0 e) e j ≤ e) ∧
      ∀ b L' Y, Told σ1 (cs_F σ1 n c0) e b L' Y → L' = L ∧ (∀ b', b' ≠ b → Y b' = cs_ya σ1 b') ∧ ∀ (j : Nat) (x : qE), j < L → (fq (fun c => suc n (cs_ti σ1) (mgc σ1 n c) c) c0 e)[anc (fq (fun c => suc n (cs_ti σ1) (mgc σ1 n c) c) c0 e) e j]? = some x → Y b 0 (L - 1 - j) = cs_sa σ1 0 (x.2.2 / 64 % 4) ∧ Y b 1 (L - 1 - j) = nI (x.2.2 / 8 % 8) ∧ Y b 2 (L - 1 - j) = nI (x.2.2 % 8) := by
  have hR := cs_Rq hn t4 h0
  have hd0 := fun (q1 : _) (q2 : _) => end12 (n := n) (t := cs_ti σ1) (mg := mgc σ1 n) (ep := cs_en σ1 n) (e := e) (y := y) hn t4 t1 (fun c c' h => mgc_c h) h0 q1 hey q2
  have hpre : fq (fun c => suc n (cs_ti σ1) (mgc σ1 n c) c) c0 e <+: fq (fun c => suc n (cs_ti σ1) (mgc σ1 n c) c) c0 1240 := fq_pre _ c0 (by omega)
  have hQo := Qo.f (fun c => suc n (cs_ti σ1) (mgc σ1 n c) c) c0 e
  generalize fq (fun c => suc n (cs_ti σ1) (mgc σ1 n c) c) c0 e = Q at *
  generalize fq (fun c => suc n (cs_ti σ1) (mgc σ1 n c) c) c0 1240 = Z at *
  have hel := (List.getElem?_eq_some_iff.mp hy).1
  obtain ⟨s1, s2, s3⟩ := hR.fst hpre hy hey hno
  have hd := hd0 (pre_at hpre hy) (fun i z hi hz => hno i z hi (by rw [← pre_at2 hpre (by omega)]; exact hz))
  have hap := anc_pre hpre (fun i x hx => (hQo.1 i x hx).2.1) hel
  have hSQ : ∀ i, i ≤ e → (cs_F σ1 n c0).1[i]? = Q[i]? := fun i hi => by
    rw [← pre_at2 hpre (by omega), ← pre_at2 s2 (by omega)]
  have has := anc_pre s2 (fun i x hx => (hQo.1 i x (by
    have hi := (List.getElem?_eq_some_iff.mp hx).1
    rw [← hSQ i (by omega)]
    exact hx)).2.1) (e := e) (by omega)
  have haq : ∀ j, anc (cs_F σ1 n c0).1 e j = anc Q e j := fun j => (has j).2.symm.trans (hap j).2
  obtain ⟨j0, hj0, hd⟩ := hd
  obtain ⟨L, hL, hL2⟩ := pk_least (fun j => anc Q e j = 0) ⟨j0, by rw [← (hap j0).2]; exact hd⟩
  have hL12 : L ≤ 12 := by
    rcases Nat.lt_or_ge j0 L with q | q
    · exact absurd ((hap j0).2.symm.trans hd) (hL2 j0 q)
    · omega
  refine ⟨s1, L, hL12, hL, fun j hj => Nat.pos_of_ne_zero (hL2 j hj), fun j => (hap j).1, fun b L' Y hT => ?_⟩
  obtain ⟨t1, t2, t3, t4, t5⟩ := hT
  have hLL : L' = L := by
    rcases Nat.lt_trichotomy L' L with q | q | q
    · rcases t3 with t3 | t3
      · rw [haq] at t3
        exact absurd t3 (hL2 L' q)
      · omega
    · exact q
    · have := t2 L q
      rw [haq, hL] at this
      omega
  subst hLL
  refine ⟨rfl, t4, fun j x hj hx => t5 j x hj ?_⟩
  rw [haq, hSQ _ (hap j).1]
  exact hx
end EU
