/-! A method's answer may be said more weakly; reach, said of the queue. -/
theorem px_s1v_m {st : List Value} {f g : Int32 → Prop} (h : ∀ v, f v → g v) (q : px_s1v st f) : px_s1v st g := by
  unfold px_s1v at *
  split at q
  · exact h _ q
  · exact q.elim
theorem px_s1l_m {st : List Value} {f g : Int64 → Prop} (h : ∀ v, f v → g v) (q : px_s1l st f) : px_s1l st g := by
  unfold px_s1l at *
  split at q
  · exact h _ q
  · exact q.elim
theorem px_s1a_m {st : List Value} {f g : Value → Prop} (h : ∀ v, f v → g v) (q : px_s1a st f) : px_s1a st g := by
  unfold px_s1a at *
  split at q
  · exact h _ q
  · exact h _ q
  · exact q.elim
theorem px_s0_m {st : List Value} {f g : Prop} (h : f → g) (q : px_s0 st f) : px_s0 st g := by
  unfold px_s0 at *
  split at q
  · exact h q
  · exact q.elim
theorem px_rt_m {ret : Option FieldType} {v : Int32} {f g : Prop} (h : f → g) (q : px_rt ret v f) : px_rt ret v g := by
  unfold px_rt at *
  split at q
  · exact h q
  · exact ⟨q.1, h q.2⟩
  · exact q.elim
theorem px_rl_m {ret : Option FieldType} {f g : Prop} (h : f → g) (q : px_rl ret f) : px_rl ret g := by
  unfold px_rl at *
  split at q
  · exact h q
  · exact q.elim
theorem px_ra_m {ret : Option FieldType} {f g : Prop} (h : f → g) (q : px_ra ret f) : px_ra ret g := by
  unfold px_ra at *
  split at q
  · exact h q
  · exact h q
  · exact q.elim
theorem px_rv_m {ret : Option FieldType} {f g : Prop} (h : f → g) (q : px_rv ret f) : px_rv ret g := by
  unfold px_rv at *
  split at q
  · exact h q
  · exact q.elim
theorem px_T_m {cal : px_Cal} {Y : px_L} {B mc ms : Nat} {sc : Option (Nat × Nat × (Nat → Int32))} {M : px_M} {Po Po' : Option Value → px_P → Prop} {Pt : Nat → px_P → Prop} {X : px_S → Prop} (hP : ∀ v C, Po v C → Po' v C) {s : px_S} (h : px_T cal Y B mc ms sc M Po Pt X s) : px_T cal Y B mc ms sc M Po' Pt X s := by
  unfold px_T at *
  cases hi : px_ft (px_co M) s.1 with
  | none => rw [hi] at h; exact h
  | some i =>
    rw [hi] at h
    show px_I cal Y B mc ms sc M.2.2.2.2.1 (px_po M) (px_hh M) Po' Pt X i s.1 s.2.1 s.2.2.1 s.2.2.2.1 s.2.2.2.2.1 s.2.2.2.2.2
    have h : px_I cal Y B mc ms sc M.2.2.2.2.1 (px_po M) (px_hh M) Po Pt X i s.1 s.2.1 s.2.2.1 s.2.2.2.1 s.2.2.2.2.1 s.2.2.2.2.2 := h
    cases i with
    | ireturn => exact px_s1v_m (fun v q => px_rt_m (hP _ _) q) h
    | lreturn => exact px_s1l_m (fun v q => px_rl_m (hP _ _) q) h
    | areturn => exact px_s1a_m (fun v q => px_ra_m (hP _ _) q) h
    | return_ => exact px_s0_m (fun q => px_rv_m (hP _ _) q) h
    | _ => exact h
theorem px_Wp {Y : px_L} {P : List px_M} {B : Nat} {sc : Option (Nat × Nat × (Nat → Int32))} {d j : Nat} {av : List Value} {C : px_P} {mc ms : Nat} {Po Po' : Option Value → px_P → Prop} {Pt : Nat → px_P → Prop} (h : px_W Y P B sc d j av C mc ms Po Pt) (hP : ∀ v C, Po v C → Po' v C) : px_W Y P B sc d j av C mc ms Po' Pt := by
  cases d with
  | zero => exact h
  | succ d =>
    obtain ⟨M, h1, h2, h3⟩ := h
    exact ⟨M, h1, h2, fun X hw hX => h3 X hw (fun s hs => hX s (px_T_m hP hs))⟩
section RN
variable {B : Nat} {sc : Option (Nat × Nat × (Nat → Int32))} {d : Nat} {ad : Nat → Nat} {σ : ck_S} {K : rp_K} {C : px_P}
/-- the class at another state of its search, the queue as S -/
def Cq (ad : Nat → Nat) (σ : ck_S) (K : rp_K) (C : px_P) (S : qS) : Prop := ∃ σ' K', Rp ad K' C ∧ Cl ad σ' K' ∧ (∀ i, 100 ≤ i → K' i = K i) ∧ Fr σ σ' ∧ Sq σ' S
theorem cc_reachS (hR : Rp ad K C) (hc : Cl ad σ K) {S : qS} (hS : Sq σ S) {n c : Nat} (hc4 : c < 65536) (hsz : cs_si σ 0 = nI n) (hn4 : n ≤ 4) (p s : Nat) {pp : Int32} (hp : pp = nI p - 1) : px_W ps_Y ps_P B sc (d + 2) 34 [.ref (ad 3), .int (nI c), .int pp, .int (nI s)] C 0 0 (fun v C' => v = none ∧ Cq ad σ K C' (rch (fun c => en (cs_lv σ) c n) S (c, p, s))) px_no := by
  subst hp
  refine px_Wp (cc_reach hR hc hc4 hsz hn4 hS.1 hS.2.1 (nI p - 1) (nI s)) ?_
  rintro v C' ⟨rfl, ⟨rfl, hq⟩ | ⟨q1, q2, q3, K', k1, k2, k3⟩⟩
  · rw [(hS.reach hc4 p s).1 hq]
    exact ⟨rfl, σ, K, hR, hc, fun _ _ => rfl, Fr.rf σ, hS⟩
  · exact ⟨rfl, _, K', k1, k2, k3, Fr.rc _ _ _ _ _ _, (hS.reach hc4 p s).2 q1 q2 q3⟩
end RN
