/-! Both searches go through one queue; the class stops at the first end that it reaches, the reference at the first that it takes up. -/
theorem pig : ∀ (l m : List Nat), l.Nodup → (∀ x ∈ l, x ∈ m) → l.length ≤ m.length
  | [], m, _, _ => Nat.zero_le _
  | a :: l, m, hd, hs => by
    have ha : a ∈ m := hs a List.mem_cons_self
    have hd2 := List.nodup_cons.mp hd
    have := pig l (m.erase a) hd2.2 (fun x hx => (List.mem_erase_of_ne (fun w : x = a => hd2.1 (w ▸ hx))).mpr (hs x (List.mem_cons_of_mem _ hx)))
    rw [List.length_erase_of_mem ha] at this
    have hp : 0 < m.length := List.length_pos_of_mem ha
    show l.length + 1 ≤ m.length
    omega
def ad1 (Q : List qE) (x : qE) : List qE := if x.1 ∈ qc Q then Q else Q ++ [x]
def adl (p : Nat) (Q : List qE) (l : List (Nat × Nat)) : List qE := l.foldl (fun Q y => ad1 Q (y.1, p, y.2)) Q
/-- the queue when the first i codes have been taken up -/
def fq (sc : Nat → List (Nat × Nat)) (c0 : Nat) : Nat → List qE
  | 0 => [(c0, 0, 0)]
  | i + 1 => match (fq sc c0 i)[i]? with
    | some x => adl (i + 1) (fq sc c0 i) (sc x.1)
    | none => fq sc c0 i
theorem fq_s {sc : Nat → List (Nat × Nat)} {c0 i : Nat} {x : qE} (h : (fq sc c0 i)[i]? = some x) : fq sc c0 (i + 1) = adl (i + 1) (fq sc c0 i) (sc x.1) := by
  show (match (fq sc c0 i)[i]? with | some x => adl (i + 1) (fq sc c0 i) (sc x.1) | none => fq sc c0 i) = _
  rw [h]
theorem fq_n {sc : Nat → List (Nat × Nat)} {c0 i : Nat} (h : (fq sc c0 i)[i]? = none) : fq sc c0 (i + 1) = fq sc c0 i := by
  show (match (fq sc c0 i)[i]? with | some x => adl (i + 1) (fq sc c0 i) (sc x.1) | none => fq sc c0 i) = _
  rw [h]
theorem ad1_pre (Q : List qE) (x : qE) : Q <+: ad1 Q x := by
  unfold ad1
  split
  · exact List.prefix_rfl
  · exact List.prefix_append _ _
theorem adl_pre (p : Nat) : ∀ (l : List (Nat × Nat)) (Q : List qE), Q <+: adl p Q l
  | [], Q => List.prefix_rfl
  | y :: l, Q => (ad1_pre Q (y.1, p, y.2)).trans (adl_pre p l (ad1 Q (y.1, p, y.2)))
theorem fq_pre1 (sc : Nat → List (Nat × Nat)) (c0 i : Nat) : fq sc c0 i <+: fq sc c0 (i + 1) := by
  cases h : (fq sc c0 i)[i]? with
  | none => rw [fq_n h]; exact List.prefix_rfl
  | some x => rw [fq_s h]; exact adl_pre _ _ _
theorem fq_pre (sc : Nat → List (Nat × Nat)) (c0 : Nat) {i j : Nat} (h : i ≤ j) : fq sc c0 i <+: fq sc c0 j := by
  induction j with
  | zero => rw [Nat.le_zero.mp h]; exact List.prefix_rfl
  | succ j ih =>
    rcases Nat.lt_or_ge i (j + 1) with q | q
    · exact (ih (by omega)).trans (fq_pre1 sc c0 j)
    · rw [show i = j + 1 by omega]; exact List.prefix_rfl
theorem pre_at {Q Q' : List qE} (h : Q <+: Q') {i : Nat} {x : qE} (hx : Q[i]? = some x) : Q'[i]? = some x := by
  obtain ⟨t, rfl⟩ := h
  rw [List.getElem?_append_left (List.getElem?_eq_some_iff.mp hx).1]
  exact hx
theorem pre_at2 {Q Q' : List qE} (h : Q <+: Q') {i : Nat} (hi : i < Q.length) : Q'[i]? = Q[i]? := by
  obtain ⟨t, rfl⟩ := h
  exact List.getElem?_append_left hi
theorem fq_st {sc : Nat → List (Nat × Nat)} {c0 i : Nat} (h : (fq sc c0 i).length ≤ i) : ∀ j, i ≤ j → fq sc c0 j = fq sc c0 i := by
  intro j hj
  induction j with
  | zero => rw [Nat.le_zero.mp hj]
  | succ j ih =>
    rcases Nat.lt_or_ge i (j + 1) with q | q
    · have e := ih (by omega)
      rw [fq_n, e]
      rw [e]
      exact List.getElem?_eq_none (by omega)
    · rw [show i = j + 1 by omega]
/-- what holds of a queue of codes of V -/
def Qv (V : Nat → Prop) (Q : List qE) : Prop := (qc Q).Nodup ∧ ∀ x ∈ Q, V x.1
theorem qc_app (Q : List qE) (x : qE) : qc (Q ++ [x]) = qc Q ++ [x.1] := List.map_append
theorem Qv.a1 {V : Nat → Prop} {Q : List qE} (h : Qv V Q) {x : qE} (hx : V x.1) : Qv V (ad1 Q x) := by
  unfold ad1
  split
  · exact h
  · rename_i hm
    refine ⟨?_, fun y hy => ?_⟩
    · rw [qc_app, List.nodup_append]
      refine ⟨h.1, List.nodup_cons.mpr ⟨List.not_mem_nil, List.nodup_nil⟩, fun a ha b hb => ?_⟩
      rw [List.mem_singleton.mp hb]
      exact fun w => hm (w ▸ ha)
    · rcases List.mem_append.mp hy with q | q
      · exact h.2 y q
      · rw [List.mem_singleton.mp q]
        exact hx
theorem Qv.al {V : Nat → Prop} {p : Nat} : ∀ {l : List (Nat × Nat)} {Q : List qE}, Qv V Q → (∀ y ∈ l, V y.1) → Qv V (adl p Q l)
  | [], Q, h, _ => h
  | y :: l, Q, h, hl => Qv.al (l := l) (Q := ad1 Q (y.1, p, y.2)) (h.a1 (hl y List.mem_cons_self)) (fun z hz => hl z (List.mem_cons_of_mem _ hz))
theorem Qv.f {V : Nat → Prop} {sc : Nat → List (Nat × Nat)} {c0 : Nat} (h0 : V c0) (hV : ∀ c, V c → ∀ y ∈ sc c, V y.1) : ∀ i, Qv V (fq sc c0 i)
  | 0 => ⟨List.nodup_cons.mpr ⟨List.not_mem_nil, List.nodup_nil⟩, fun x hx => by rw [List.mem_singleton.mp hx]; exact h0⟩
  | i + 1 => by
    have ih := Qv.f h0 hV i
    cases h : (fq sc c0 i)[i]? with
    | none => rw [fq_n h]; exact ih
    | some x =>
      rw [fq_s h]
      exact ih.al (hV x.1 (ih.2 x (List.mem_of_getElem? h)))
theorem Qv.len {V : Nat → Prop} {Q : List qE} (h : Qv V Q) {l : List Nat} (hl : ∀ c, V c → c ∈ l) : Q.length ≤ l.length := by
  have := pig (qc Q) l h.1 (fun c hc => by
    obtain ⟨x, hx, rfl⟩ := List.mem_map.mp hc
    exact hl _ (h.2 x hx))
  rwa [show (qc Q).length = Q.length from List.length_map ..] at this
/-- the class's queue, next to the whole one -/
def Rq (ep : Nat → Bool) (S : qS) (Q : List qE) : Prop :=
  (S.2 = 0 ∧ S.1 = Q ∧ ∀ x ∈ Q, ep x.1 = false) ∨ (∃ e x, S.2 = e + 1 ∧ S.1.length = e + 1 ∧ S.1 <+: Q ∧ S.1[e]? = some x ∧ ep x.1 = true ∧ ∀ i y, i < e → S.1[i]? = some y → ep y.1 = false)
theorem Rq.r1 {ep : Nat → Bool} {S : qS} {Q : List qE} (h : Rq ep S Q) {x : qE} (hb : 1240 ≤ Q.length → x.1 ∈ qc Q) : Rq ep (rch ep S x) (ad1 Q x) := by
  rcases h with ⟨h0, h1, h2⟩ | ⟨e, y, h0, h1, h2, h3⟩
  · by_cases hm : x.1 ∈ qc Q
    · rw [show rch ep S x = S from if_pos (Or.inr (Or.inr (h1 ▸ hm))), show ad1 Q x = Q from if_pos hm]
      exact Or.inl ⟨h0, h1, h2⟩
    · have e1 : rch ep S x = (S.1 ++ [x], if ep x.1 = true then S.1.length + 1 else 0) := if_neg (by
        rintro (w | w | w)
        · exact w h0
        · exact hm (hb (h1 ▸ w))
        · exact hm (h1 ▸ w))
      rw [e1, show ad1 Q x = Q ++ [x] from if_neg hm, h1]
      cases hx : ep x.1 with
      | false =>
        refine Or.inl ⟨rfl, rfl, fun z hz => ?_⟩
        rcases List.mem_append.mp hz with q | q
        · exact h2 z q
        · rw [List.mem_singleton.mp q]
          exact hx
      | true =>
        refine Or.inr ⟨Q.length, x, rfl, ?_, List.prefix_rfl, ?_, hx, fun i z hi hz => ?_⟩
        · show (Q ++ [x]).length = _
          rw [List.length_append]
          rfl
        · show (Q ++ [x])[Q.length]? = _
          rw [List.getElem?_append_right (Nat.le_refl _), Nat.sub_self]
          rfl
        · have hz : (Q ++ [x])[i]? = some z := hz
          rw [List.getElem?_append_left hi] at hz
          exact h2 z (List.mem_of_getElem? hz)
  · rw [show rch ep S x = S from if_pos (Or.inl (by omega))]
    exact Or.inr ⟨e, y, h0, h1, h2.trans (ad1_pre Q x), h3⟩
theorem Rq.rl {ep : Nat → Bool} {V : Nat → Prop} {l0 : List Nat} (hl : ∀ c, V c → c ∈ l0) (hl0 : l0.length ≤ 1240) {p : Nat} : ∀ {l : List (Nat × Nat)} {S : qS} {Q : List qE}, Rq ep S Q → Qv V Q → (∀ y ∈ l, V y.1) → Rq ep (rchl ep p S l) (adl p Q l)
  | [], S, Q, h, _, _ => h
  | y :: l, S, Q, h, hQ, hV => by
    have hy := hV y List.mem_cons_self
    have hb : 1240 ≤ Q.length → (y.1, p, y.2).1 ∈ qc Q := fun hq => Classical.byContradiction (fun hm => by
      have h2 : Qv V (Q ++ [(y.1, p, y.2)]) := by
        have := hQ.a1 (x := (y.1, p, y.2)) hy
        rwa [show ad1 Q (y.1, p, y.2) = Q ++ [(y.1, p, y.2)] from if_neg hm] at this
      have := h2.len hl
      rw [List.length_append] at this
      have e : [(y.1, p, y.2)].length = 1 := rfl
      omega)
    exact Rq.rl hl hl0 (l := l) (h.r1 hb) (hQ.a1 hy) (fun z hz => hV z (List.mem_cons_of_mem _ hz))
theorem Rq.b {ep : Nat → Bool} {V : Nat → Prop} {l0 : List Nat} (hl : ∀ c, V c → c ∈ l0) (hl0 : l0.length ≤ 1240) {sc : Nat → List (Nat × Nat)} {c0 : Nat} (h0 : V c0) (hV : ∀ c, V c → ∀ y ∈ sc c, V y.1) : ∀ m a {S : qS}, Rq ep S (fq sc c0 a) → Rq ep (bfs ep sc m a S) (fq sc c0 (a + m))
  | 0, a, S, h => h
  | m + 1, a, S, h => by
    rcases h with ⟨q0, q1, q2⟩ | ⟨e, y, q0, q1, q2, q3⟩
    · cases hx : S.1[a]? with
      | none =>
        have hlen : S.1.length ≤ a := List.getElem?_eq_none_iff.mp hx
        rw [bfs_n hlen, fq_st (q1 ▸ hlen) (a + (m + 1)) (by omega)]
        exact Or.inl ⟨q0, q1, q2⟩
      | some x =>
        rw [bfs_s q0 hx, show a + (m + 1) = a + 1 + m by omega]
        refine Rq.b hl hl0 h0 hV m (a + 1) ?_
        rw [fq_s (q1 ▸ hx)]
        have hQ := Qv.f h0 hV a
        exact Rq.rl hl hl0 (Or.inl ⟨q0, q1, q2⟩) hQ (hV x.1 (hQ.2 x (List.mem_of_getElem? (q1 ▸ hx))))
    · rw [bfs_e (by omega)]
      exact Or.inr ⟨e, y, q0, q1, q2.trans (fq_pre sc c0 (by omega)), q3⟩
/-- where codes came from: parents in their order, by a move -/
def Qo (sc : Nat → List (Nat × Nat)) (m : Nat) (Q : List qE) : Prop :=
  (∀ (i : Nat) (x : qE), Q[i]? = some x → x.2.1 ≤ m ∧ x.2.1 ≤ i ∧ (0 < i → 1 ≤ x.2.1 ∧ ∃ z, Q[x.2.1 - 1]? = some z ∧ (x.1, x.2.2) ∈ sc z.1)) ∧
  (∀ (i j : Nat) (x y : qE), i ≤ j → Q[i]? = some x → Q[j]? = some y → x.2.1 ≤ y.2.1)
theorem app_at {Q : List qE} {x y : qE} {i : Nat} (h : (Q ++ [x])[i]? = some y) : (i < Q.length ∧ Q[i]? = some y) ∨ (i = Q.length ∧ y = x) := by
  rcases Nat.lt_or_ge i Q.length with hi | hi
  · rw [List.getElem?_append_left hi] at h
    exact Or.inl ⟨hi, h⟩
  · rw [List.getElem?_append_right hi] at h
    have h1 : y = x := by
      have := List.mem_of_getElem? h
      simpa using this
    have h2 := (List.getElem?_eq_some_iff.mp h).1
    have e : [x].length = 1 := rfl
    exact Or.inr ⟨by omega, h1⟩
theorem Qo.a1 {sc : Nat → List (Nat × Nat)} {m : Nat} {Q : List qE} (h : Qo sc m Q) (h1 : 1 ≤ m) {x z : qE} (hx : x.2.1 = m) (hz : Q[m - 1]? = some z) (hs : (x.1, x.2.2) ∈ sc z.1) : Qo sc m (ad1 Q x) := by
  unfold ad1
  split
  · exact h
  · have hm : m - 1 < Q.length := (List.getElem?_eq_some_iff.mp hz).1
    refine ⟨fun i y hy => ?_, fun i j y w hij hy hw => ?_⟩
    · rcases app_at hy with ⟨q1, q2⟩ | ⟨q1, q2⟩
      · obtain ⟨a, b, c⟩ := h.1 i y q2
        refine ⟨a, b, fun hi => ?_⟩
        obtain ⟨d, u, hu, hv⟩ := c hi
        exact ⟨d, u, pre_at (List.prefix_append _ _) hu, hv⟩
      · rw [q2, hx]
        exact ⟨Nat.le_refl _, by omega, fun _ => ⟨h1, z, pre_at (List.prefix_append _ _) hz, hs⟩⟩
    · rcases app_at hy with ⟨q1, q2⟩ | ⟨q1, q2⟩
      · rcases app_at hw with ⟨p1, p2⟩ | ⟨p1, p2⟩
        · exact h.2 i j y w hij q2 p2
        · rw [p2, hx]
          exact (h.1 i y q2).1
      · rcases app_at hw with ⟨p1, p2⟩ | ⟨p1, p2⟩
        · omega
        · rw [q2, p2]
          exact Nat.le_refl _
theorem Qo.al {sc : Nat → List (Nat × Nat)} {m : Nat} (h1 : 1 ≤ m) {z : qE} : ∀ {l : List (Nat × Nat)} {Q : List qE}, Qo sc m Q → Q[m - 1]? = some z → (∀ y ∈ l, y ∈ sc z.1) → Qo sc m (adl m Q l)
  | [], Q, h, _, _ => h
  | y :: l, Q, h, hz, hl => Qo.al h1 (l := l) (Q := ad1 Q (y.1, m, y.2)) (h.a1 h1 (x := (y.1, m, y.2)) rfl hz (hl y List.mem_cons_self)) (pre_at (ad1_pre _ _) hz) (fun w hw => hl w (List.mem_cons_of_mem _ hw))
theorem Qo.mono {sc : Nat → List (Nat × Nat)} {m m' : Nat} {Q : List qE} (h : Qo sc m Q) (hm : m ≤ m') : Qo sc m' Q :=
  ⟨fun i x hx => ⟨Nat.le_trans (h.1 i x hx).1 hm, (h.1 i x hx).2⟩, h.2⟩
theorem Qo.f (sc : Nat → List (Nat × Nat)) (c0 : Nat) : ∀ i, Qo sc i (fq sc c0 i)
  | 0 => by
    have key : ∀ (i : Nat) (x : qE), [((c0, 0, 0) : qE)][i]? = some x → i = 0 ∧ x = (c0, 0, 0) := fun i x hx => by
      have h1 : x = (c0, 0, 0) := by
        have := List.mem_of_getElem? hx
        simpa using this
      have h2 := (List.getElem?_eq_some_iff.mp hx).1
      have e : [((c0, 0, 0) : qE)].length = 1 := rfl
      exact ⟨by omega, h1⟩
    refine ⟨fun i x hx => ?_, fun i j x y _ hx hy => ?_⟩
    · obtain ⟨rfl, rfl⟩ := key i x hx
      exact ⟨Nat.le_refl _, Nat.le_refl _, fun w => absurd w (Nat.lt_irrefl _)⟩
    · obtain ⟨rfl, rfl⟩ := key i x hx
      exact Nat.zero_le _
  | i + 1 => by
    have ih := Qo.f sc c0 i
    cases h : (fq sc c0 i)[i]? with
    | none => rw [fq_n h]; exact ih.mono (by omega)
    | some x =>
      rw [fq_s h]
      exact Qo.al (by omega) (ih.mono (by omega)) h (fun _ q => q)
theorem ad1_in (Q : List qE) (x : qE) : x.1 ∈ qc (ad1 Q x) := by
  unfold ad1
  split
  · assumption
  · rw [qc_app]
    exact List.mem_append_right _ (List.mem_singleton.mpr rfl)
theorem qc_pre {Q Q' : List qE} (h : Q <+: Q') {c : Nat} (hc : c ∈ qc Q) : c ∈ qc Q' := by
  obtain ⟨x, hx, rfl⟩ := List.mem_map.mp hc
  exact List.mem_map.mpr ⟨x, h.subset hx, rfl⟩
theorem adl_in (p : Nat) : ∀ (l : List (Nat × Nat)) (Q : List qE), ∀ y ∈ l, y.1 ∈ qc (adl p Q l)
  | y :: l, Q, z, hz => by
    rcases List.mem_cons.mp hz with q | q
    · rw [q]
      exact qc_pre (adl_pre p l _) (ad1_in Q (y.1, p, y.2))
    · exact adl_in p l _ z q
/-- all moves of what was taken up are there, and came no later -/
theorem fq_cl {sc : Nat → List (Nat × Nat)} {c0 a m : Nat} (ha : a < m) {x : qE} (hx : (fq sc c0 m)[a]? = some x) {y : Nat × Nat} (hy : y ∈ sc x.1) : ∃ (j : Nat) (w : qE), (fq sc c0 m)[j]? = some w ∧ w.1 = y.1 ∧ w.2.1 ≤ a + 1 := by
  have h1 : (fq sc c0 (a + 1)) <+: fq sc c0 m := fq_pre sc c0 (by omega)
  have hla : a < (fq sc c0 a).length := by
    rcases Nat.lt_or_ge a (fq sc c0 a).length with q | q
    · exact q
    · have := fq_st q m (by omega)
      rw [this, List.getElem?_eq_none q] at hx
      cases hx
  have hxa : (fq sc c0 a)[a]? = some x := by
    rw [← pre_at2 (fq_pre sc c0 (by omega : a ≤ m)) hla]
    exact hx
  have hin := adl_in (a + 1) (sc x.1) (fq sc c0 a) y hy
  rw [← fq_s hxa] at hin
  obtain ⟨w, hw, hw1⟩ := List.mem_map.mp hin
  obtain ⟨j, hj⟩ := List.getElem?_of_mem hw
  exact ⟨j, w, pre_at h1 hj, hw1, ((Qo.f sc c0 (a + 1)).1 j w hj).1⟩
theorem anc_p {Q : List qE} {i : Nat} {x : qE} (hx : Q[i]? = some x) : ∀ j, anc Q i (j + 1) = anc Q (x.2.1 - 1) j
  | 0 => anc_s (e := i) (j := 0) hx
  | j + 1 => by
    have ih := anc_p hx j
    show (match Q[anc Q i (j + 1)]? with | some x => x.2.1 - 1 | none => 0) = (match Q[anc Q (x.2.1 - 1) j]? with | some x => x.2.1 - 1 | none => 0)
    rw [ih]
/-- the first is no more than k moves away -/
def dl (Q : List qE) (i k : Nat) : Prop := ∃ j, j ≤ k ∧ anc Q i j = 0
theorem dl_s {Q : List qE} {i k : Nat} {x : qE} (hx : Q[i]? = some x) (h : dl Q (x.2.1 - 1) k) : dl Q i (k + 1) := by
  obtain ⟨j, hj, h⟩ := h
  exact ⟨j + 1, by omega, (anc_p hx j).trans h⟩
theorem dl_le {sc : Nat → List (Nat × Nat)} {m : Nat} {Q : List qE} (hQ : Qo sc m Q) : ∀ k {i i' : Nat} {x : qE}, Q[i]? = some x → dl Q i k → i' ≤ i → dl Q i' k
  | 0, i, i', x, hx, h, hi => by
    obtain ⟨j, hj, h⟩ := h
    rw [Nat.le_zero.mp hj] at h
    have h : i = 0 := h
    exact ⟨0, Nat.le_refl 0, show i' = 0 by omega⟩
  | k + 1, i, i', x, hx, h, hi => by
    rcases Nat.eq_zero_or_pos i' with h0 | h0
    · exact ⟨0, Nat.zero_le _, h0⟩
    · have hil := (List.getElem?_eq_some_iff.mp hx).1
      obtain ⟨x', hx'⟩ : ∃ x', Q[i']? = some x' := ⟨_, List.getElem?_eq_getElem (by omega)⟩
      obtain ⟨j, hj, h⟩ := h
      cases j with
      | zero =>
        have h : i = 0 := h
        omega
      | succ j =>
        rw [anc_p hx] at h
        obtain ⟨q1, z, hz, -⟩ := (hQ.1 i x hx).2.2 (by omega)
        have := hQ.2 i' i x' x hi hx' hx
        exact dl_s hx' (dl_le hQ k hz ⟨j, by omega, h⟩ (by omega))
/-- a code reached by k moves -/
def Rn (sc : Nat → List (Nat × Nat)) : Nat → Nat → Nat → Prop
  | 0, c, c' => c = c'
  | k + 1, c, c' => ∃ m, Rn sc k c m ∧ ∃ s, (c', s) ∈ sc m
theorem Rn.tr {sc : Nat → List (Nat × Nat)} {a : Nat} {c m : Nat} (h : Rn sc a c m) : ∀ {b : Nat} {c' : Nat}, Rn sc b m c' → Rn sc (a + b) c c'
  | 0, c', h2 => by
    have h2 : m = c' := h2
    subst h2
    exact h
  | b + 1, c', ⟨w, hw, s, hs⟩ => ⟨w, h.tr hw, s, hs⟩
theorem Rn.one {sc : Nat → List (Nat × Nat)} {c : Nat} {y : Nat × Nat} (h : y ∈ sc c) : Rn sc 1 c y.1 := ⟨c, rfl, y.2, h⟩
/-- what is reached by k moves stands in the queue no more than k moves away -/
theorem fq_dl {sc : Nat → List (Nat × Nat)} {c0 m : Nat} (hm : (fq sc c0 m).length ≤ m) : ∀ {k c : Nat}, Rn sc k c0 c → ∃ (i : Nat) (x : qE), (fq sc c0 m)[i]? = some x ∧ x.1 = c ∧ dl (fq sc c0 m) i k
  | 0, c, h => by
    have h : c0 = c := h
    exact ⟨0, (c0, 0, 0), pre_at (fq_pre sc c0 (Nat.zero_le m)) rfl, h, 0, Nat.le_refl 0, rfl⟩
  | k + 1, c, ⟨w, hw, s, hs⟩ => by
    obtain ⟨i, x, hx, rfl, hd⟩ := fq_dl hm hw
    have hil := (List.getElem?_eq_some_iff.mp hx).1
    obtain ⟨j, y, hy, hy1, hy2⟩ := fq_cl (m := m) (by omega) hx hs
    refine ⟨j, y, hy, hy1, ?_⟩
    rcases Nat.eq_zero_or_pos j with h0 | h0
    · exact ⟨0, Nat.zero_le _, h0⟩
    · have hQ := Qo.f sc c0 m
      have := ((hQ.1 j y hy).2.2 h0).1
      exact dl_s hy (dl_le hQ k hx hd (by omega))
/-- what stands in the queue is reached by moves -/
theorem fq_rn {sc : Nat → List (Nat × Nat)} {c0 m : Nat} : ∀ (N i : Nat) (x : qE), i ≤ N → (fq sc c0 m)[i]? = some x → ∃ k, Rn sc k c0 x.1
  | 0, i, x, hi, hx => by
    rw [Nat.le_zero.mp hi] at hx
    rw [pre_at (fq_pre sc c0 (Nat.zero_le m)) (show (fq sc c0 0)[0]? = some (c0, 0, 0) from rfl)] at hx
    cases hx
    exact ⟨0, rfl⟩
  | N + 1, i, x, hi, hx => by
    rcases Nat.eq_zero_or_pos i with h0 | h0
    · exact fq_rn N i x (by omega) hx
    · obtain ⟨q0, q1, q2⟩ := (Qo.f sc c0 m).1 i x hx
      obtain ⟨q3, z, hz, hs⟩ := q2 h0
      obtain ⟨k, hk⟩ := fq_rn N (x.2.1 - 1) z (by omega) hz
      exact ⟨k + 1, z.1, hk, x.2.2, hs⟩
