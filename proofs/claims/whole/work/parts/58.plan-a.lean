/-! The plan's length; who may go out and what an end is, said by both. -/
theorem anc_pre {Q Q' : List qE} (h : Q <+: Q') (hQ : ∀ (i : Nat) (x : qE), Q[i]? = some x → x.2.1 ≤ i) {e : Nat} (he : e < Q.length) : ∀ j, anc Q e j ≤ e ∧ anc Q' e j = anc Q e j
  | 0 => ⟨Nat.le_refl e, rfl⟩
  | j + 1 => by
    obtain ⟨a, b⟩ := anc_pre h hQ he j
    obtain ⟨x, hx⟩ : ∃ x, Q[anc Q e j]? = some x := ⟨_, List.getElem?_eq_getElem (by omega)⟩
    have hx' : Q'[anc Q' e j]? = some x := by rw [b]; exact pre_at h hx
    have := hQ _ x hx
    rw [anc_s hx, anc_s hx']
    exact ⟨by omega, rfl⟩
theorem Rq.fst {ep : Nat → Bool} {S : qS} {Q Q1 : List qE} (h : Rq ep S Q) (h1 : Q1 <+: Q) {e : Nat} {y : qE} (hy : Q1[e]? = some y) (he : ep y.1 = true) (hno : ∀ (i : Nat) (z : qE), i < e → Q1[i]? = some z → ep z.1 = false) : S.2 = e + 1 ∧ S.1 <+: Q ∧ S.1.length = e + 1 := by
  have hyQ := pre_at h1 hy
  rcases h with ⟨-, -, h0⟩ | ⟨e', x, q0, q1, q2, q3, q4, q5⟩
  · have := h0 y (List.mem_of_getElem? hyQ)
    rw [he] at this
    cases this
  · have hel := (List.getElem?_eq_some_iff.mp hy).1
    have ee : e' = e := by
      rcases Nat.lt_trichotomy e e' with q | q | q
      · have hs : S.1[e]? = some y := by
          rw [← pre_at2 q2 (by omega)]
          exact hyQ
        have := q5 e y q hs
        rw [he] at this
        cases this
      · exact q.symm
      · have hs : Q1[e']? = some x := by
          rw [← pre_at2 h1 (by omega)]
          exact pre_at q2 q3
        have := hno e' x q hs
        rw [q4] at this
        cases this
    subst ee
    exact ⟨q0, q2, q1⟩
theorem Rq.non {ep : Nat → Bool} {S : qS} {Q : List qE} (h : Rq ep S Q) (hno : ∀ x ∈ Q, ep x.1 = false) : S.2 = 0 := by
  rcases h with ⟨h0, -, -⟩ | ⟨e', x, q0, q1, q2, q3, q4, q5⟩
  · exact h0
  · have := hno x (List.mem_of_getElem? (pre_at q2 q3))
    rw [q4] at this
    cases this
theorem mgj_c {nd : Nat → Nat → Bool} {c c' k : Nat} : ∀ n, (∀ j, j < n → (pl c j = 12 ↔ pl c' j = 12)) → mgj nd c k n = mgj nd c' k n
  | 0, _ => rfl
  | n + 1, h => by
    show (mgj nd c k n && (!nd k n || pl c n == 12)) = (mgj nd c' k n && (!nd k n || pl c' n == 12))
    have e : (pl c n == 12) = (pl c' n == 12) := by
      rw [Bool.eq_iff_iff, beq_iff_eq, beq_iff_eq]
      exact h n (by omega)
    rw [mgj_c n (fun j hj => h j (by omega)), e]
theorem mgj_iff {nd : Nat → Nat → Bool} {c k : Nat} : ∀ n, mgj nd c k n = true ↔ ∀ j, j < n → nd k j = true → pl c j = 12
  | 0 => ⟨fun _ j hj => absurd hj (Nat.not_lt_zero j), fun _ => rfl⟩
  | n + 1 => by
    have ih := mgj_iff (nd := nd) (c := c) (k := k) n
    constructor
    · intro h j hj hq
      exact mgj_at h hj hq
    · intro h
      exact mgj_s (ih.mpr (fun j hj => h j (by omega))) (h n (by omega))
theorem en_iff {lv : Nat → Bool} {c : Nat} : ∀ n, en lv c n = true ↔ ∀ k, k < n → pl c k ≠ 13 ∧ (lv k = true → pl c k = 12)
  | 0 => ⟨fun _ j hj => absurd hj (Nat.not_lt_zero j), fun _ => rfl⟩
  | n + 1 => by
    have ih := en_iff (lv := lv) (c := c) n
    constructor
    · intro h k hk
      exact en_at h hk
    · intro h
      exact en_s (ih.mpr (fun k hk => h k (by omega))) (h n (by omega)).1 (h n (by omega)).2
section EZ
variable {n t : Nat} {mg : Nat → Nat → Bool} {ep : Nat → Bool} {c0 : Nat}
/-- the first end is no more than twelve moves away -/
theorem end12 (hn : n ≤ 4) (t4 : t ≤ 4) (t1 : 1 ≤ t) (hmg : ∀ c c', (∀ j, j < n → (pl c j = 12 ↔ pl c' j = 12)) → mg c = mg c') (h0 : Vd n t c0) {e : Nat} {y : qE} (hy : (fq (fun c => suc n t (mg c) c) c0 1240)[e]? = some y) (he : ep y.1 = true) (hno : ∀ (i : Nat) (z : qE), i < e → (fq (fun c => suc n t (mg c) c) c0 1240)[i]? = some z → ep z.1 = false) : dl (fq (fun c => suc n t (mg c) c) c0 1240) e 12 := by
  have hQ : Qv (Vd n t) (fq (fun c => suc n t (mg c) c) c0 1240) := Qv.f h0 (fun c hc z hz => hc.nx hn t4 hz) 1240
  have hl := hQ.l1240 hn
  obtain ⟨k, hk⟩ := fq_rn _ e y (Nat.le_refl e) hy
  obtain ⟨k', hk', hr⟩ := Vd.twelve hn t4 t1 hmg h0 hk
  obtain ⟨i, x, hx, hxc, j, hj, hd⟩ := fq_dl hl hr
  have hei : e ≤ i := by
    rcases Nat.lt_or_ge i e with q | q
    · have := hno i x q hx
      rw [hxc, he] at this
      cases this
    · exact q
  exact dl_le (Qo.f _ c0 1240) 12 hx ⟨j, by omega, hd⟩ hei
/-- which box a move moves, and from where -/
theorem suc_stk {ml : Nat → Bool} {c : Nat} (hn : n ≤ 4) {y : Nat × Nat} (hy : y ∈ suc n t ml c) : stk n c (y.2 / 8 % 8) = y.2 / 64 + 1 ∧ y.2 / 8 % 8 < 7 ∧ y.2 % 8 < 5 ∧ y.2 < 256 ∧ y.2 % 64 / 8 = y.2 / 8 % 8 := by
  rw [← sml_suc hn (asc_le c n)] at hy
  have key : ∀ p, p ≤ 35 → y ∈ sml n t c ml p → ∃ f to, f < 7 ∧ to < 5 ∧ y ∈ smv n t c f to ml := fun p => by
    induction p with
    | zero => intro _ h; cases h
    | succ p ih =>
      intro hp h
      rcases List.mem_append.mp (show y ∈ sml n t c ml p ++ smv n t c (p / 5) (p % 5) ml from h) with q | q
      · exact ih (by omega) q
      · exact ⟨p / 5, p % 5, by omega, by omega, q⟩
  obtain ⟨f, to, hf, hto, h⟩ := key 35 (Nat.le_refl _) hy
  have hk := stk_le (c := c) hn f
  cases hs : stk n c f with
  | zero =>
    rw [smv_0 hs] at h
    cases h
  | succ k =>
    unfold smv at h
    rw [hs, Nat.add_sub_cancel] at h
    cases hb : (Nat.beq (k + 1) 0 || sno n t c k f to ml) with
    | true =>
      rw [hb] at h
      cases h
    | false =>
      rw [hb] at h
      have e := List.mem_singleton.mp h
      have e2 : y.2 = 64 * k + 8 * f + to := by rw [e]
      have a1 : y.2 / 64 = k := by omega
      have a2 : y.2 / 8 % 8 = f := by omega
      rw [a1, a2, hs]
      exact ⟨rfl, hf, by omega, by omega, by omega⟩
end EZ
theorem bjs_inj (σ : ck_S) (x : Int32) : ∀ i {q r j : Nat}, (bjs σ x i)[q]? = some j → (bjs σ x i)[r]? = some j → q = r
  | 0, q, r, j, h, _ => by simp [bjs] at h
  | i + 1, q, r, j, h, h2 => by
    by_cases hq : cs_bf σ i 1 = x ∧ ¬ cs_bf σ i 2 = 3
    · rw [show bjs σ x (i + 1) = bjs σ x i ++ [i] from if_pos hq] at h h2
      have key : ∀ {q : Nat}, (bjs σ x i ++ [i])[q]? = some j → (q < (bjs σ x i).length ∧ (bjs σ x i)[q]? = some j) ∨ (q = (bjs σ x i).length ∧ j = i) := fun {q} h => by
        rcases Nat.lt_or_ge q (bjs σ x i).length with hl | hl
        · rw [List.getElem?_append_left hl] at h
          exact Or.inl ⟨hl, h⟩
        · rw [List.getElem?_append_right hl] at h
          have h1 := (List.getElem?_eq_some_iff.mp h).1
          have e1 : [i].length = 1 := rfl
          have h2 : j = i := by
            have := List.mem_of_getElem? h
            simpa using this
          exact Or.inr ⟨by omega, h2⟩
      rcases key h with ⟨a1, a2⟩ | ⟨a1, a2⟩
      · rcases key h2 with ⟨b1, b2⟩ | ⟨b1, b2⟩
        · exact bjs_inj σ x i a2 b2
        · have := (bjs_at σ x i q j a2).1
          omega
      · rcases key h2 with ⟨b1, b2⟩ | ⟨b1, b2⟩
        · have := (bjs_at σ x i r j b2).1
          omega
        · omega
    · rw [show bjs σ x (i + 1) = bjs σ x i from if_neg hq] at h h2
      exact bjs_inj σ x i h h2
theorem bjs_in (σ : ck_S) (x : Int32) : ∀ i {j : Nat}, j < i → cs_bf σ j 1 = x → ¬ cs_bf σ j 2 = 3 → ∃ q : Nat, (bjs σ x i)[q]? = some j
  | 0, j, h, _, _ => absurd h (Nat.not_lt_zero j)
  | i + 1, j, h, h1, h2 => by
    have ih := fun (w : j < i) => bjs_in σ x i w h1 h2
    by_cases hq : cs_bf σ i 1 = x ∧ ¬ cs_bf σ i 2 = 3
    · rw [show bjs σ x (i + 1) = bjs σ x i ++ [i] from if_pos hq]
      rcases Nat.lt_or_ge j i with w | w
      · obtain ⟨q, hq⟩ := ih w
        exact ⟨q, by rw [List.getElem?_append_left (List.getElem?_eq_some_iff.mp hq).1]; exact hq⟩
      · obtain rfl : j = i := by omega
        exact ⟨(bjs σ x j).length, by rw [List.getElem?_append_right (Nat.le_refl _), Nat.sub_self]; rfl⟩
    · rw [show bjs σ x (i + 1) = bjs σ x i from if_neg hq]
      rcases Nat.lt_or_ge j i with w | w
      · exact ih w
      · obtain rfl : j = i := by omega
        exact absurd ⟨h1, h2⟩ hq
/-- needs are among boxes of one bay -/
def cs_nb1 (σ : ck_S) : Prop := ∀ x y, x < cs_n σ → cs_need σ x y → cs_bf σ x 1 = cs_bf σ y 1
section EY
variable {σ σ1 : ck_S} {x : Int32} {c0 : Nat}
theorem Ad.mg (h : Ad σ σ1 (bjs σ x (cs_n σ)) c0) (hn : cs_n σ ≤ 16) (hnb : cs_nb1 σ) {t : Nat} : ∀ c, Vd (bjs σ x (cs_n σ)).length t c → ∀ k, k < (bjs σ x (cs_n σ)).length → (mgc σ1 (bjs σ x (cs_n σ)).length c k = true ↔ rml σ (bjs σ x (cs_n σ)).length (jn (bjs σ x (cs_n σ))) (ew c (bjs σ x (cs_n σ)).length) k) := by
  intro c hv k hk
  obtain ⟨-, -, hl4, -, -, -, hA⟩ := h
  have hjk := hA k _ (jn_some hk)
  have hkj := bjs_at σ x (cs_n σ) k _ (jn_some hk)
  unfold mgc rml
  rw [Bool.and_eq_true, hjk.2.2.1, decide_eq_true_iff, mgj_iff]
  have nd : ∀ j, j < (bjs σ x (cs_n σ)).length → (cs_ndk σ1 k j = true ↔ cs_need σ (jn (bjs σ x (cs_n σ)) j) (jn (bjs σ x (cs_n σ)) k)) := fun j hj => by
    have hjj := hA j _ (jn_some hj)
    unfold cs_ndk cs_need
    rw [hjk.2.1, hjj.1]
    simp [hkj.1]
  refine and_congr Iff.rfl ⟨fun h z hz hnd => ?_, fun h j hj hnd => ?_⟩
  · by_cases h3 : cs_bf σ z 2 = 3
    · exact Or.inl h3
    · obtain ⟨q, hq⟩ := bjs_in σ x (cs_n σ) hz ((hnb z _ hz hnd).trans hkj.2.1) h3
      have hql := (List.getElem?_eq_some_iff.mp hq).1
      have e := jn_at hq
      refine Or.inr ⟨q, hql, e, (hv.ou hl4 hql).mpr (h q hql ((nd q hql).mpr ?_))⟩
      rw [e]
      exact hnd
  · have hjj := bjs_at σ x (cs_n σ) j _ (jn_some hj)
    rcases h _ hjj.1 ((nd j hj).mp hnd) with w | ⟨q, hq, e, ho⟩
    · exact absurd w hjj.2.2
    · have : q = j := bjs_inj σ x (cs_n σ) (jn_some hq) (by rw [e]; exact jn_some hj)
      subst this
      exact (hv.ou hl4 hq).mp ho
theorem Ad.ep (h : Ad σ σ1 (bjs σ x (cs_n σ)) c0) {t : Nat} : ∀ c, Vd (bjs σ x (cs_n σ)).length t c → (cs_en σ1 (bjs σ x (cs_n σ)).length c = true ↔ ∀ k, k < (bjs σ x (cs_n σ)).length → (¬ rsd (ew c (bjs σ x (cs_n σ)).length) k = true ∧ (¬ cs_bf σ (jn (bjs σ x (cs_n σ)) k) 0 = 0 ∨ rod (ew c (bjs σ x (cs_n σ)).length) k = true))) := by
  intro c hv
  obtain ⟨-, -, hl4, -, -, -, hA⟩ := h
  unfold cs_en
  rw [en_iff]
  constructor
  · intro h k hk
    have hjk := hA k _ (jn_some hk)
    obtain ⟨a, b⟩ := h k hk
    refine ⟨fun w => a ((hv.as hl4 hk).mp w), ?_⟩
    by_cases hp : cs_bf σ (jn (bjs σ x (cs_n σ)) k) 0 = 0
    · exact Or.inr ((hv.ou hl4 hk).mpr (b (by rw [hjk.2.2.1]; exact decide_eq_true hp)))
    · exact Or.inl hp
  · intro h k hk
    have hjk := hA k _ (jn_some hk)
    obtain ⟨a, b⟩ := h k hk
    refine ⟨fun w => a ((hv.as hl4 hk).mpr w), fun w => ?_⟩
    rw [hjk.2.2.1, decide_eq_true_iff] at w
    exact (hv.ou hl4 hk).mp (b.elim (fun q => absurd w q) id)
theorem Ad.wj (h : Ad σ σ1 (bjs σ x (cs_n σ)) c0) : wjs σ (bjs σ x (cs_n σ)) = ew c0 (bjs σ x (cs_n σ)).length := by
  obtain ⟨-, -, hl4, -, -, -, hA⟩ := h
  rw [← wj_ew]
  exact wj_c _ (fun k hk => (hA k _ (jn_some hk)).2.2.2.symm)
end EY
