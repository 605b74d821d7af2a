/-! The search's queue: codes with the place they came from (0 none) and the step; then the end (0 none). -/
abbrev qE : Type := Nat × Nat × Nat
abbrev qS : Type := List qE × Nat
def qc (Q : List qE) : List Nat := Q.map (fun x => x.1)
def rch (ep : Nat → Bool) (S : qS) (x : qE) : qS := if ¬ S.2 = 0 ∨ 1240 ≤ S.1.length ∨ x.1 ∈ qc S.1 then S else (S.1 ++ [x], if ep x.1 = true then S.1.length + 1 else 0)
def rchl (ep : Nat → Bool) (p : Nat) (S : qS) (l : List (Nat × Nat)) : qS := l.foldl (fun S x => rch ep S (x.1, p, x.2)) S
theorem rchl_app (ep : Nat → Bool) (p : Nat) (S : qS) (l l' : List (Nat × Nat)) : rchl ep p S (l ++ l') = rchl ep p (rchl ep p S l) l' := List.foldl_append
def lb (x : Int64) (m : Nat) : Bool := x.toBitVec.getLsbD m
def bl (m : Nat) : Int64 := lN 1 <<< ((nI m).toInt64 &&& 63)
theorem bl_lb : ∀ m, m < 64 → ∀ i, i < 64 → lb (bl m) i = decide (i = m) := by decide +kernel
theorem bitL_bl (c : Nat) (hc : c < 65536) : bitL c = bl (c % 64) := by
  unfold bitL bl
  rw [pk_andN (by omega) 6 (by decide +kernel)]
theorem lb_zero {x : Int64} (h : ∀ m, m < 64 → lb x m = false) : x = 0 := Int64.toBitVec_inj.mp (BitVec.eq_of_getLsbD_eq (fun i hi => by
  rw [show x.toBitVec.getLsbD i = false from h i hi]
  exact (BitVec.getLsbD_zero).symm))
theorem lb_and (x y : Int64) (m : Nat) : lb (x &&& y) m = (lb x m && lb y m) := BitVec.getLsbD_and
theorem lb_or (x y : Int64) (m : Nat) : lb (x ||| y) m = (lb x m || lb y m) := BitVec.getLsbD_or
theorem lb_0 (m : Nat) : lb 0 m = false := BitVec.getLsbD_zero
theorem lb_iff {x : Int64} {m : Nat} (hm : m < 64) : (x &&& bl m) = 0 ↔ lb x m = false := by
  constructor
  · intro h
    have h2 : lb (x &&& bl m) m = false := by rw [h]; exact lb_0 m
    rw [lb_and, bl_lb m hm m hm] at h2
    simpa using h2
  · intro h
    refine lb_zero (fun i hi => ?_)
    rw [lb_and, bl_lb m hm i hi]
    by_cases hq : i = m
    · rw [hq, h]
      rfl
    · simp [hq]
/-- the class's arrays hold the queue -/
def Sq (σ : ck_S) (S : qS) : Prop :=
  cs_si σ 3 = nI S.1.length ∧ S.1.length ≤ 1240 ∧ cs_si σ 4 = nI S.2 - 1 ∧ S.2 ≤ S.1.length ∧
  (∀ i x, S.1[i]? = some x → cs_sa σ 4 i = nI x.1 ∧ cs_sa σ 5 i = nI x.2.1 - 1 ∧ cs_sa σ 6 i = nI x.2.2 ∧ x.1 < 65536) ∧
  ∀ c, c < 65536 → (lb (cs_sn σ (c / 64)) (c % 64) = true ↔ c ∈ qc S.1)
/-- another state of the search with the same boxes -/
def Fr (σ σ' : ck_S) : Prop := ∃ J : cs_J, σ' = cs_jk σ J ∧ (∀ q, q < 4 → J.1 q = cs_sa σ q) ∧ ∀ q, q < 3 → J.2.2 q = cs_si σ q
theorem Fr.rf (σ : ck_S) : Fr σ σ := ⟨σ.2.2.2.2.2, rfl, fun _ _ => rfl, fun _ _ => rfl⟩
theorem Fr.tr {σ σ1 σ2 : ck_S} (h : Fr σ σ1) (h2 : Fr σ1 σ2) : Fr σ σ2 := by
  obtain ⟨J, rfl, a, b⟩ := h
  obtain ⟨J2, rfl, a2, b2⟩ := h2
  exact ⟨J2, rfl, fun q hq => (a2 q hq).trans (a q hq), fun q hq => (b2 q hq).trans (b q hq)⟩
theorem Fr.sa {σ σ' : ck_S} (h : Fr σ σ') {q : Nat} (hq : q < 4) : cs_sa σ' q = cs_sa σ q := by
  obtain ⟨J, rfl, a, b⟩ := h
  exact a q hq
theorem Fr.si {σ σ' : ck_S} (h : Fr σ σ') {q : Nat} (hq : q < 3) : cs_si σ' q = cs_si σ q := by
  obtain ⟨J, rfl, a, b⟩ := h
  exact b q hq
theorem Fr.lv {σ σ' : ck_S} (h : Fr σ σ') : cs_lv σ' = cs_lv σ := by
  funext k
  unfold cs_lv
  rw [h.si (by omega : 1 < 3)]
theorem Fr.nd {σ σ' : ck_S} (h : Fr σ σ') : cs_ndk σ' = cs_ndk σ := by
  funext k j
  unfold cs_ndk
  rw [h.sa (by omega : 1 < 4), h.sa (by omega : 0 < 4)]
theorem Fr.ti {σ σ' : ck_S} (h : Fr σ σ') : cs_ti σ' = cs_ti σ := by
  obtain ⟨J, rfl, a, b⟩ := h
  rfl
theorem nI_m1 {a : Nat} (ha : a < 2 ^ 31) : nI a - 1 = -1 ↔ a = 0 := by
  constructor
  · intro h
    cases a with
    | zero => rfl
    | succ a =>
      rw [nI_pred] at h
      have := congrArg Int32.toInt h
      rw [nI_toInt (by omega)] at this
      have h2 : (-1 : Int32).toInt = -1 := by decide +kernel
      omega
  · intro h
    rw [h]
    decide +kernel
/-- what reach does to the queue -/
theorem Sq.reach {σ : ck_S} {S : qS} (h : Sq σ S) {n c : Nat} (hc4 : c < 65536) (p s : Nat) :
    ((¬ cs_si σ 4 = -1 ∨ 1240 ≤ S.1.length ∨ ¬ (cs_sn σ (c / 64) &&& bitL c) = 0) → rch (fun c => en (cs_lv σ) c n) S (c, p, s) = S) ∧
    (cs_si σ 4 = -1 → S.1.length < 1240 → (cs_sn σ (c / 64) &&& bitL c) = 0 → Sq (cs_rc σ S.1.length c (nI p - 1) (nI s) (if en (cs_lv σ) c n = true then nI S.1.length else -1)) (rch (fun c => en (cs_lv σ) c n) S (c, p, s))) := by
  obtain ⟨h1, h2, h3, h4, h5, h6⟩ := h
  have hb : (cs_sn σ (c / 64) &&& bitL c) = 0 ↔ c ∉ qc S.1 := by
    rw [bitL_bl c hc4, lb_iff (by omega), ← h6 c hc4]
    cases lb (cs_sn σ (c / 64)) (c % 64) <;> simp
  have he : cs_si σ 4 = -1 ↔ S.2 = 0 := by rw [h3]; exact nI_m1 (by omega)
  constructor
  · intro hq
    refine if_pos ?_
    rcases hq with hq | hq | hq
    · exact Or.inl (fun w => hq (he.mpr w))
    · exact Or.inr (Or.inl hq)
    · exact Or.inr (Or.inr (Classical.not_not.mp (fun w => hq (hb.mpr w))))
  · intro q1 q2 q3
    have q1 := he.mp q1
    have q3 := hb.mp q3
    have hr : rch (fun c => en (cs_lv σ) c n) S (c, p, s) = (S.1 ++ [(c, p, s)], if en (cs_lv σ) c n = true then S.1.length + 1 else 0) := if_neg (fun w => by
      rcases w with w | w | w
      · exact w q1
      · omega
      · exact q3 w)
    rw [hr]
    refine ⟨?_, ?_, ?_, ?_, ?_, ?_⟩
    · show nI S.1.length + 1 = _
      rw [List.length_append]
      exact (nI_succ _).symm
    · rw [List.length_append]
      exact q2
    · show (if en (cs_lv σ) c n = true then nI S.1.length else -1) = nI (if en (cs_lv σ) c n = true then S.1.length + 1 else 0) - 1
      by_cases h : en (cs_lv σ) c n = true
      · rw [if_pos h, if_pos h, nI_pred]
      · rw [if_neg h, if_neg h]
        decide +kernel
    · rw [List.length_append]
      show (if en (cs_lv σ) c n = true then S.1.length + 1 else 0) ≤ S.1.length + 1
      split <;> omega
    · intro i x hx
      show upd (cs_sa σ 4) S.1.length (nI c) i = _ ∧ upd (cs_sa σ 5) S.1.length (nI p - 1) i = _ ∧ upd (cs_sa σ 6) S.1.length (nI s) i = _ ∧ _
      by_cases hi : i = S.1.length
      · have hx2 : x = (c, p, s) := by
          rw [hi, List.getElem?_append_right (Nat.le_refl _), Nat.sub_self] at hx
          exact (Option.some.inj hx).symm
        rw [hi, pk_us, pk_us, pk_us, hx2]
        exact ⟨rfl, rfl, rfl, hc4⟩
      · have hl : i < S.1.length := by
          have := (List.getElem?_eq_some_iff.mp hx).1
          rw [List.length_append] at this
          simp at this
          omega
        rw [pk_un hi, pk_un hi, pk_un hi]
        exact h5 i x (by rw [List.getElem?_append_left hl] at hx; exact hx)
    · intro c' hc'
      show lb (vp_updL (cs_sn σ) (c / 64) (cs_sn σ (c / 64) ||| bitL c) (c' / 64)) (c' % 64) = true ↔ c' ∈ qc (S.1 ++ [(c, p, s)])
      have hm : c' ∈ qc (S.1 ++ [(c, p, s)]) ↔ c' ∈ qc S.1 ∨ c' = c := by simp [qc]
      rw [hm, ← h6 c' hc']
      by_cases hrow : c' / 64 = c / 64
      · rw [hrow, pk_uLs, lb_or, bitL_bl c hc4, bl_lb (c % 64) (by omega) (c' % 64) (by omega)]
        by_cases hq : c' % 64 = c % 64
        · have : c' = c := by omega
          simp [this]
        · have : c' ≠ c := fun w => hq (by rw [w])
          simp [hq, this]
      · rw [pk_uLn hrow]
        have : c' ≠ c := fun w => hrow (by rw [w])
        simp [this]
theorem Fr.rc (σ : ck_S) (r c : Nat) (p s e : Int32) : Fr σ (cs_rc σ r c p s e) := by
  refine ⟨_, rfl, fun q hq => ?_, fun q hq => ?_⟩
  · show va_up (va_up (va_up (cs_sa σ) 4 _) 5 _) 6 _ q = _
    rw [va_up_ne _ _ (by omega), va_up_ne _ _ (by omega), va_up_ne _ _ (by omega)]
  · match q, hq with
    | 0, _ => rfl
    | 1, _ => rfl
    | 2, _ => rfl
