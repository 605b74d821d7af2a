/-! The reference: box. -/
section SI
variable {B : Nat} {sc : Option (Nat × Nat × (Nat → Int32))} {d : Nat} {ad : Nat → Nat} {σ : ck_S} {ρ : rs_S} {K : rp_K} {C : px_P}
theorem Sim.nw {σ : ck_S} {p : Nat × Nat × Nat} {fs fs' : Nat → Int32} {fa F : Nat → Nat → Int32} {fw : Nat → Int64} (h : Sim σ (p, fs, fa, fw)) (hn : cs_n σ < 16) {b : Nat} (f : Nat → Int32) (hf : f 4 = 0)
    (f1 : fs' 1 = fs 1) (f2 : fs' 2 = fs 2) (n1 : F 1 = upd (fa 1) (cs_n σ) (f 0)) (n2 : F 2 = upd (fa 2) (cs_n σ) (f 1)) (n3 : F 3 = upd (fa 3) (cs_n σ) (f 2)) (n4 : F 4 = upd (fa 4) (cs_n σ) (f 3)) (n7 : F 7 = upd (fa 7) b 0) (nn : ∀ q, q ≠ 1 → q ≠ 2 → q ≠ 3 → q ≠ 4 → q ≠ 7 → F q = fa q) :
    Sim (cs_fp (cs_nw σ f) b) ((cs_nb σ, cs_ti σ, cs_n σ + 1), fs', F, fw) := by
  obtain ⟨⟨h1, h1a, h1b⟩, h2, h3, h4⟩ := h
  have bk' : cs_bf (cs_fp (cs_nw σ f) b) (cs_n σ) = f := va_up_self (cs_bf σ) _ _
  have bn : ∀ i, i ≠ cs_n σ → cs_bf (cs_fp (cs_nw σ f) b) i = cs_bf σ i := fun i hi => va_up_ne (cs_bf σ) _ hi
  have hN : cs_n (cs_fp (cs_nw σ f) b) = cs_n σ + 1 := rfl
  refine ⟨⟨rfl, f1.trans h1a, f2.trans h1b⟩, fun i hi => ?_, fun i l hi hl => ?_, fun c hc => ?_⟩
  · show F 1 i = _ ∧ F 2 i = _ ∧ F 3 i = _ ∧ F 4 i = _
    rw [n1, n2, n3, n4]
    by_cases hik : i = cs_n σ
    · rw [hik, bk', pk_us, pk_us, pk_us, pk_us]
      exact ⟨rfl, rfl, rfl, rfl⟩
    · rw [bn i hik, pk_un hik, pk_un hik, pk_un hik, pk_un hik]
      exact h2 i (by rw [hN] at hi; omega)
  · show (_ ∧ F 5 _ = 1) ∨ (_ ∧ F 5 _ = 0)
    rw [nn 5 (by omega) (by omega) (by omega) (by omega) (by omega)]
    have e : cs_need (cs_fp (cs_nw σ f) b) i l ↔ cs_need σ i l := by
      unfold cs_need
      rw [hN]
      by_cases hlk : l = cs_n σ
      · rw [hlk, bk', hf]
        constructor
        · rintro ⟨_, w⟩
          have z : ∀ i, i < 16 → ((0 : Int32) >>> (nI i &&& 31)) &&& 1 = 0 := by decide +kernel
          exact absurd (z i hi) w
        · rintro ⟨w, _⟩
          exact absurd w (Nat.lt_irrefl _)
      · rw [bn l hlk]
        constructor
        · rintro ⟨w1, w2⟩
          exact ⟨by omega, w2⟩
        · rintro ⟨w1, w2⟩
          exact ⟨by omega, w2⟩
    rw [e]
    exact h3 i l hi hl
  · obtain ⟨q1, q2, q3, q4⟩ := h4 c hc
    show F 6 c = _ ∧ F 7 c = _ ∧ (_ → F 8 c = _ ∧ F 9 c = _ ∧ ∀ i, _ → _ → F 10 _ = _ ∧ F 11 _ = _ ∧ F 12 _ = _) ∧ ∃ m d : Nat, F 8 c = _ ∧ F 9 c = _ ∧ _
    rw [n7, nn 6 (by omega) (by omega) (by omega) (by omega) (by omega), nn 8 (by omega) (by omega) (by omega) (by omega) (by omega), nn 9 (by omega) (by omega) (by omega) (by omega) (by omega), nn 10 (by omega) (by omega) (by omega) (by omega) (by omega), nn 11 (by omega) (by omega) (by omega) (by omega) (by omega), nn 12 (by omega) (by omega) (by omega) (by omega) (by omega)]
    by_cases hcb : c = b
    · subst hcb
      rw [pk_us]
      refine ⟨q1.trans (cs_fp_3 (cs_nw σ f) c c).symm, (cs_fp_0 (cs_nw σ f) c).symm, fun w => absurd (cs_fp_0 (cs_nw σ f) c) w, q4⟩
    · rw [pk_un hcb, cs_fp_n (cs_nw σ f) hcb]
      exact ⟨q1, q2, q3, q4⟩
/-- boxes at the end of the arrays are none of the reference's -/
theorem Sim.hi {σ : ck_S} {p : Nat × Nat × Nat} {fs fs' : Nat → Int32} {fa F : Nat → Nat → Int32} {fw : Nat → Int64} (h : Sim σ (p, fs, fa, fw)) (f1 : fs' 1 = fs 1) (f2 : fs' 2 = fs 2) {x y : Int32}
    (n1 : F 1 = upd (fa 1) (cs_n σ) x) (n2 : F 2 = upd (fa 2) (cs_n σ) y) (nn : ∀ q, q ≠ 1 → q ≠ 2 → F q = fa q) : Sim σ (p, fs', F, fw) := by
  obtain ⟨⟨h1, h1a, h1b⟩, h2, h3, h4⟩ := h
  refine ⟨⟨h1, f1.trans h1a, f2.trans h1b⟩, fun i hi => ?_, fun i l hi hl => ?_, fun c hc => ?_⟩
  · show F 1 i = _ ∧ F 2 i = _ ∧ F 3 i = _ ∧ F 4 i = _
    rw [n1, n2, nn 3 (by omega) (by omega), nn 4 (by omega) (by omega), pk_un (by omega), pk_un (by omega)]
    exact h2 i hi
  · show (_ ∧ F 5 _ = 1) ∨ (_ ∧ F 5 _ = 0)
    rw [nn 5 (by omega) (by omega)]
    exact h3 i l hi hl
  · show F 6 c = _ ∧ F 7 c = _ ∧ (_ → F 8 c = _ ∧ F 9 c = _ ∧ ∀ i, _ → _ → F 10 _ = _ ∧ F 11 _ = _ ∧ F 12 _ = _) ∧ ∃ m d : Nat, F 8 c = _ ∧ F 9 c = _ ∧ _
    rw [nn 6 (by omega) (by omega), nn 7 (by omega) (by omega), nn 8 (by omega) (by omega), nn 9 (by omega) (by omega), nn 10 (by omega) (by omega), nn 11 (by omega) (by omega), nn 12 (by omega) (by omega)]
    exact h4 c hc
theorem i32_5 (x : Int32) : (5 : Int32) < x ↔ ¬ x ≤ 5 := by
  rw [Int32.not_le]
theorem rr_box (hR : Rp ad K C) (hr : Rl ad ρ K) (hs : Sim σ ρ) (hn : cs_n σ ≤ 16) (hnb : cs_nb σ ≤ 4) (hcn : ∀ b : Nat, b < cs_nb σ → ∃ m : Nat, m ≤ 4 ∧ cs_bin σ (nI b) = nI m) (hht : ∀ b s : Nat, b < cs_nb σ → s < 3 → ∃ m : Nat, m ≤ cs_ti σ ∧ cs_hgt σ (nI b) (nI s) = nI m) (hti : cs_ti σ ≤ 4) (x y z : Int32) : px_W ps_Y ps_P B sc (d + 2) 62 [.ref (ad 100), .int x, .int y, .int z] C 0 0 (px_oR ad K (of_box σ x y z)) px_no := by
  obtain ⟨p, fs, fa, fw⟩ := ρ
  obtain rfl : p = σ.1 := hs.1.1
  have hA1 : C (ad 101) = some (px_i 16 (fa 1)) := hR.1 101 _ (hr.2.1 1 (by decide) (by decide) (by decide))
  have hA2 : C (ad 102) = some (px_i 16 (fa 2)) := hR.1 102 _ (hr.2.1 2 (by decide) (by decide) (by decide))
  have hA3 : C (ad 103) = some (px_i 16 (fa 3)) := hR.1 103 _ (hr.2.1 3 (by decide) (by decide) (by decide))
  have hA4 : C (ad 104) = some (px_i 16 (fa 4)) := hR.1 104 _ (hr.2.1 4 (by decide) (by decide) (by decide))
  refine ⟨pm_Ref_box, rfl, Nat.le_of_ble_eq_true rfl, fun X hw hX => ?_⟩
  have hgood : ∀ b s : Nat, s < 3 → (¬ z < 0 ∧ ¬ 5 < z) → ∀ {α : Type} {p q : α}, (if nI s < 0 ∨ 3 ≤ nI s ∨ z < 0 ∨ ¬ z ≤ 5 then p else q) = q := fun b s hs3 hz α p q => if_neg (by
    rintro (q | q | q | q)
    · exact nI_pos (by omega) q
    · exact nI_ge hs3 (by omega) q
    · exact hz.1 q
    · exact hz.2 ((i32_5 _).mpr q))
  have nI_le4 : ∀ {m : Nat}, (4 : Int32) ≤ nI m → m < 2 ^ 31 → 4 ≤ m := fun {m} h hm => Nat.le_of_not_lt (fun w => nI_ge w (by omega) h)
  iterate 3 refine px_go hX ?_
  refine ⟨_, (hR.1 100 _ hr.1), 0, 0, _, Nat.le_of_ble_eq_true rfl, Nat.le_of_ble_eq_true rfl, Nat.le_of_ble_eq_true rfl, rr_isBay hR hr hs _, ?_⟩
  rintro _ C ⟨rfl, ⟨b1, rfl⟩ | ⟨b1, rfl⟩⟩
  · obtain ⟨b, hb, rfl⟩ := px_ix2 b1 (by omega)
    refine px_go hX ?_
    refine ⟨fun (c2 : 1 = 0) => absurd c2 (by decide), fun (c2 : ¬ 1 = 0) => ?_⟩
    iterate 4 refine px_go hX ?_
    refine ⟨Nat.le_of_ble_eq_true rfl, 0, 0, _, Nat.le_of_ble_eq_true rfl, Nat.le_of_ble_eq_true rfl, Nat.le_of_ble_eq_true rfl, rr_in _ _ _, ?_⟩
    rintro _ C ⟨rfl, ⟨b3, rfl⟩ | ⟨b3, rfl⟩⟩
    · obtain ⟨s, hs3, rfl⟩ := px_ix2 (n := 3) ⟨b3.1, fun w => b3.2 ((i32_23 _).mpr w)⟩ (by omega)
      refine px_go hX ?_
      refine ⟨fun (c4 : 1 = 0) => absurd c4 (by decide), fun (c4 : ¬ 1 = 0) => ?_⟩
      iterate 4 refine px_go hX ?_
      refine ⟨Nat.le_of_ble_eq_true rfl, 0, 0, _, Nat.le_of_ble_eq_true rfl, Nat.le_of_ble_eq_true rfl, Nat.le_of_ble_eq_true rfl, rr_in _ _ _, ?_⟩
      rintro _ C ⟨rfl, ⟨b5, rfl⟩ | ⟨b5, rfl⟩⟩
      · refine px_go hX ?_
        refine ⟨fun (c6 : ¬ 1 = 0) => ?_, fun (c6 : 1 = 0) => absurd c6 (by decide)⟩
        iterate 2 refine px_go hX ?_
        refine ⟨_, _, (hR.1 100 _ hr.1), rfl, ?_⟩
        iterate 2 refine px_go hX ?_
        refine ⟨fun (c7 : nI (cs_n σ) = (16 : Int32)) => ?_, fun (c7 : ¬ nI (cs_n σ) = (16 : Int32)) => ?_⟩
        · iterate 3 refine px_go hX ?_
          refine ⟨_, (hR.1 100 _ hr.1), 0, 0, _, Nat.le_of_ble_eq_true rfl, Nat.le_of_ble_eq_true rfl, Nat.le_of_ble_eq_true rfl, rr_refuse hR hr hs _, ?_⟩
          rintro _ C ⟨rfl, hC1⟩
          refine px_go hX ?_
          have hq : of_box σ (nI b) (nI s) z = (2, 0, σ) := by
            unfold of_box
            rw [cs_bq_s2 hnb hb]
            exact (hgood b s hs3 b5).trans (if_pos (Or.inl (by rw [c7]; decide +kernel)))
          rw [hq]
          exact ⟨_, _, hC1, hs, rfl, rfl, fun h => absurd (show (2 : Nat) = 0 from h) (by decide)⟩
        · iterate 3 refine px_go hX ?_
          refine ⟨_, (hR.1 100 _ hr.1), 0, 0, _, Nat.le_of_ble_eq_true rfl, Nat.le_of_ble_eq_true rfl, Nat.le_of_ble_eq_true rfl, rr_there hR hr hs hn _, ?_⟩
          rintro _ C ⟨rfl, rfl⟩
          obtain ⟨mc, hmc, hbin⟩ := hcn b hb
          iterate 2 refine px_go hX ?_
          refine ⟨fun (c8 : cs_bin σ (nI b) = (4 : Int32)) => ?_, fun (c8 : ¬ cs_bin σ (nI b) = (4 : Int32)) => ?_⟩
          · iterate 3 refine px_go hX ?_
            refine ⟨_, (hR.1 100 _ hr.1), 0, 0, _, Nat.le_of_ble_eq_true rfl, Nat.le_of_ble_eq_true rfl, Nat.le_of_ble_eq_true rfl, rr_refuse hR hr hs _, ?_⟩
            rintro _ C ⟨rfl, hC1⟩
            refine px_go hX ?_
            have hq : of_box σ (nI b) (nI s) z = (2, 0, σ) := by
              unfold of_box
              rw [cs_bq_s2 hnb hb]
              exact (hgood b s hs3 b5).trans (if_pos (Or.inr (Or.inl (by rw [c8]; decide +kernel))))
            rw [hq]
            exact ⟨_, _, hC1, hs, rfl, rfl, fun h => absurd (show (2 : Nat) = 0 from h) (by decide)⟩
          · iterate 4 refine px_go hX ?_
            refine ⟨_, (hR.1 100 _ hr.1), 0, 0, _, Nat.le_of_ble_eq_true rfl, Nat.le_of_ble_eq_true rfl, Nat.le_of_ble_eq_true rfl, rr_height hR hr hs hn _ _, ?_⟩
            rintro _ C ⟨rfl, rfl⟩
            obtain ⟨mh, hmh, hhgt⟩ := hht b s hb hs3
            iterate 2 refine px_go hX ?_
            refine ⟨_, _, (hR.1 100 _ hr.1), rfl, ?_⟩
            refine px_go hX ?_
            refine ⟨fun (c9 : ¬ cs_hgt σ (nI b) (nI s) = nI (cs_ti σ)) => ?_, fun (c9 : cs_hgt σ (nI b) (nI s) = nI (cs_ti σ)) => ?_⟩
            · have hlt : cs_n σ < 16 := Nat.lt_of_le_of_ne hn (fun w => c7 (congrArg nI w))
              iterate 3 refine px_go hX ?_
              refine ⟨_, (hR.1 100 _ hr.1), Nat.le_of_ble_eq_true rfl, rfl, rfl, ?_⟩
              iterate 2 refine px_go hX ?_
              refine ⟨_, _, (px_up_s _ _ _), rfl, ?_⟩
              iterate 2 refine px_go hX ?_
              refine ⟨_, _, (px_up_s _ _ _), rfl, ?_⟩
              iterate 2 refine px_go hX ?_
              refine ⟨_, _, ((px_up_n _ _ (hR.ne (hr.2.1 1 (by decide) (by decide) (by decide)) hr.1 (by decide))).trans hA1), (vp_in_nI (by omega) (by omega)), ?_⟩
              rw [nI_clamp (n := cs_n σ) (by omega)]
              iterate 2 refine px_go hX ?_
              refine ⟨_, _, ((px_up_n _ _ (hR.ne hr.1 (hr.2.1 1 (by decide) (by decide) (by decide)) (by decide))).trans (px_up_s _ _ _)), rfl, ?_⟩
              iterate 2 refine px_go hX ?_
              refine ⟨_, _, ((px_up_n _ _ (hR.ne hr.1 (hr.2.1 1 (by decide) (by decide) (by decide)) (by decide))).trans (px_up_s _ _ _)), rfl, ?_⟩
              iterate 2 refine px_go hX ?_
              refine ⟨_, _, ((px_up_n _ _ (hR.ne (hr.2.1 2 (by decide) (by decide) (by decide)) (hr.2.1 1 (by decide) (by decide) (by decide)) (by decide))).trans ((px_up_n _ _ (hR.ne (hr.2.1 2 (by decide) (by decide) (by decide)) hr.1 (by decide))).trans hA2)), (vp_in_nI (by omega) (by omega)), ?_⟩
              rw [nI_clamp (n := cs_n σ) (by omega)]
              have hR0 := (((hR.put (i := 100) hr.1 (px_o 4 [.int ((0 : Int32)), .int (nI (cs_nb σ)), .int (nI (cs_ti σ)), .int (nI (cs_n σ)), .ref (ad 101), .ref (ad 102), .ref (ad 103), .ref (ad 104), .ref (ad 105), .ref (ad 106), .int (fs 1), .int (fs 2), .ref (ad 107), .ref (ad 108), .ref (ad 109), .ref (ad 110), .ref (ad 111), .ref (ad 112), .ref (ad 113), .ref (ad 114), .ref (ad 115), .int (fs 3), .ref (ad 116), .ref (ad 117), .int (fs 4)])).put (i := 101) ((rp_up_n _ _ (by decide)).trans (hr.2.1 1 (by decide) (by decide) (by decide))) (px_i 16 (upd (fa 1) (cs_n σ) (z)))).put (i := 102) ((rp_up_n _ _ (by decide)).trans ((rp_up_n _ _ (by decide)).trans (hr.2.1 2 (by decide) (by decide) (by decide)))) (px_i 16 (upd (fa 2) (cs_n σ) (nI b))))
              have hr0 : Rl ad (((σ.1, (fun q => match q with | 0 => 0 | 1 => fs 1 | 2 => fs 2 | 3 => fs 3 | _ => fs 4), va_up (va_up fa 1 (upd (fa 1) (cs_n σ) z)) 2 (upd (fa 2) (cs_n σ) (nI b)), fw) : rs_S)) (rp_up (rp_up (rp_up (K) (100) (px_o 4 [.int ((0 : Int32)), .int (nI (cs_nb σ)), .int (nI (cs_ti σ)), .int (nI (cs_n σ)), .ref (ad 101), .ref (ad 102), .ref (ad 103), .ref (ad 104), .ref (ad 105), .ref (ad 106), .int (fs 1), .int (fs 2), .ref (ad 107), .ref (ad 108), .ref (ad 109), .ref (ad 110), .ref (ad 111), .ref (ad 112), .ref (ad 113), .ref (ad 114), .ref (ad 115), .int (fs 3), .ref (ad 116), .ref (ad 117), .int (fs 4)])) (101) (px_i 16 (upd (fa 1) (cs_n σ) (z)))) (102) (px_i 16 (upd (fa 2) (cs_n σ) (nI b)))) := ((hr.sO _ (fun q => match q with | 0 => 0 | 1 => fs 1 | 2 => fs 2 | 3 => fs 3 | _ => fs 4)).sA (q := 1) (by decide) (by decide) (by decide) _).sA (q := 2) (by decide) (by decide) (by decide) _
              have hK0 : ∀ zz, zz < 100 ∨ 118 ≤ zz → (rp_up (rp_up (rp_up (K) (100) (px_o 4 [.int ((0 : Int32)), .int (nI (cs_nb σ)), .int (nI (cs_ti σ)), .int (nI (cs_n σ)), .ref (ad 101), .ref (ad 102), .ref (ad 103), .ref (ad 104), .ref (ad 105), .ref (ad 106), .int (fs 1), .int (fs 2), .ref (ad 107), .ref (ad 108), .ref (ad 109), .ref (ad 110), .ref (ad 111), .ref (ad 112), .ref (ad 113), .ref (ad 114), .ref (ad 115), .int (fs 3), .ref (ad 116), .ref (ad 117), .int (fs 4)])) (101) (px_i 16 (upd (fa 1) (cs_n σ) (z)))) (102) (px_i 16 (upd (fa 2) (cs_n σ) (nI b)))) zz = (K) zz := fun zz hzz => by rw [rp_up_n _ _ (by omega), rp_up_n _ _ (by omega), rp_up_n _ _ (by omega)]
              have hs0 : Sim σ ((σ.1, (fun q => match q with | 0 => 0 | 1 => fs 1 | 2 => fs 2 | 3 => fs 3 | _ => fs 4), va_up (va_up fa 1 (upd (fa 1) (cs_n σ) z)) 2 (upd (fa 2) (cs_n σ) (nI b)), fw) : rs_S) := Sim.hi (x := z) (y := nI b) hs rfl rfl (by rw [va_up_ne _ _ (by omega), va_up_self]) (va_up_self _ _ _) (fun q q1 q2 => by rw [va_up_ne _ _ q2, va_up_ne _ _ q1])
              iterate 2 refine px_go hX ?_
              refine ⟨_, _, ((px_up_n _ _ (hR.ne hr.1 (hr.2.1 2 (by decide) (by decide) (by decide)) (by decide))).trans ((px_up_n _ _ (hR.ne hr.1 (hr.2.1 1 (by decide) (by decide) (by decide)) (by decide))).trans (px_up_s _ _ _))), rfl, ?_⟩
              iterate 2 refine px_go hX ?_
              refine ⟨_, _, ((px_up_n _ _ (hR.ne hr.1 (hr.2.1 2 (by decide) (by decide) (by decide)) (by decide))).trans ((px_up_n _ _ (hR.ne hr.1 (hr.2.1 1 (by decide) (by decide) (by decide)) (by decide))).trans (px_up_s _ _ _))), rfl, ?_⟩
              iterate 4 refine px_go hX ?_
              refine ⟨_, ((px_up_n _ _ (hR.ne hr.1 (hr.2.1 2 (by decide) (by decide) (by decide)) (by decide))).trans ((px_up_n _ _ (hR.ne hr.1 (hr.2.1 1 (by decide) (by decide) (by decide)) (by decide))).trans (px_up_s _ _ _))), 0, 0, _, Nat.le_of_ble_eq_true rfl, Nat.le_of_ble_eq_true rfl, Nat.le_of_ble_eq_true rfl, rr_height hR0 hr0 hs0 hn _ _, ?_⟩
              rintro _ C ⟨rfl, rfl⟩
              refine px_go hX ?_
              refine ⟨_, _, ((px_up_n _ _ (hR.ne (hr.2.1 4 (by decide) (by decide) (by decide)) (hr.2.1 2 (by decide) (by decide) (by decide)) (by decide))).trans ((px_up_n _ _ (hR.ne (hr.2.1 4 (by decide) (by decide) (by decide)) (hr.2.1 1 (by decide) (by decide) (by decide)) (by decide))).trans ((px_up_n _ _ (hR.ne (hr.2.1 4 (by decide) (by decide) (by decide)) hr.1 (by decide))).trans hA4))), (vp_in_nI (by omega) (by omega)), ?_⟩
              rw [nI_clamp (n := cs_n σ) (by omega)]
              iterate 2 refine px_go hX ?_
              refine ⟨_, _, ((px_up_n _ _ (hR.ne hr.1 (hr.2.1 4 (by decide) (by decide) (by decide)) (by decide))).trans ((px_up_n _ _ (hR.ne hr.1 (hr.2.1 2 (by decide) (by decide) (by decide)) (by decide))).trans ((px_up_n _ _ (hR.ne hr.1 (hr.2.1 1 (by decide) (by decide) (by decide)) (by decide))).trans (px_up_s _ _ _)))), rfl, ?_⟩
              iterate 2 refine px_go hX ?_
              refine ⟨_, _, ((px_up_n _ _ (hR.ne hr.1 (hr.2.1 4 (by decide) (by decide) (by decide)) (by decide))).trans ((px_up_n _ _ (hR.ne hr.1 (hr.2.1 2 (by decide) (by decide) (by decide)) (by decide))).trans ((px_up_n _ _ (hR.ne hr.1 (hr.2.1 1 (by decide) (by decide) (by decide)) (by decide))).trans (px_up_s _ _ _)))), rfl, ?_⟩
              iterate 2 refine px_go hX ?_
              refine ⟨_, _, ((px_up_n _ _ (hR.ne (hr.2.1 3 (by decide) (by decide) (by decide)) (hr.2.1 4 (by decide) (by decide) (by decide)) (by decide))).trans ((px_up_n _ _ (hR.ne (hr.2.1 3 (by decide) (by decide) (by decide)) (hr.2.1 2 (by decide) (by decide) (by decide)) (by decide))).trans ((px_up_n _ _ (hR.ne (hr.2.1 3 (by decide) (by decide) (by decide)) (hr.2.1 1 (by decide) (by decide) (by decide)) (by decide))).trans ((px_up_n _ _ (hR.ne (hr.2.1 3 (by decide) (by decide) (by decide)) hr.1 (by decide))).trans hA3)))), (vp_in_nI (by omega) (by omega)), ?_⟩
              rw [nI_clamp (n := cs_n σ) (by omega)]
              iterate 3 refine px_go hX ?_
              refine ⟨_, _, ((px_up_n _ _ (hR.ne hr.1 (hr.2.1 3 (by decide) (by decide) (by decide)) (by decide))).trans ((px_up_n _ _ (hR.ne hr.1 (hr.2.1 4 (by decide) (by decide) (by decide)) (by decide))).trans ((px_up_n _ _ (hR.ne hr.1 (hr.2.1 2 (by decide) (by decide) (by decide)) (by decide))).trans ((px_up_n _ _ (hR.ne hr.1 (hr.2.1 1 (by decide) (by decide) (by decide)) (by decide))).trans (px_up_s _ _ _))))), rfl, ?_⟩
              iterate 3 refine px_go hX ?_
              refine ⟨_, ((px_up_n _ _ (hR.ne hr.1 (hr.2.1 3 (by decide) (by decide) (by decide)) (by decide))).trans ((px_up_n _ _ (hR.ne hr.1 (hr.2.1 4 (by decide) (by decide) (by decide)) (by decide))).trans ((px_up_n _ _ (hR.ne hr.1 (hr.2.1 2 (by decide) (by decide) (by decide)) (by decide))).trans ((px_up_n _ _ (hR.ne hr.1 (hr.2.1 1 (by decide) (by decide) (by decide)) (by decide))).trans (px_up_s _ _ _))))), Nat.le_of_ble_eq_true rfl, rfl, rfl, ?_⟩
              have hR1 := ((((((hR.put (i := 100) hr.1 (px_o 4 [.int ((0 : Int32)), .int (nI (cs_nb σ)), .int (nI (cs_ti σ)), .int (nI (cs_n σ)), .ref (ad 101), .ref (ad 102), .ref (ad 103), .ref (ad 104), .ref (ad 105), .ref (ad 106), .int (fs 1), .int (fs 2), .ref (ad 107), .ref (ad 108), .ref (ad 109), .ref (ad 110), .ref (ad 111), .ref (ad 112), .ref (ad 113), .ref (ad 114), .ref (ad 115), .int (fs 3), .ref (ad 116), .ref (ad 117), .int (fs 4)])).put (i := 101) ((rp_up_n _ _ (by decide)).trans (hr.2.1 1 (by decide) (by decide) (by decide))) (px_i 16 (upd (fa 1) (cs_n σ) (z)))).put (i := 102) ((rp_up_n _ _ (by decide)).trans ((rp_up_n _ _ (by decide)).trans (hr.2.1 2 (by decide) (by decide) (by decide)))) (px_i 16 (upd (fa 2) (cs_n σ) (nI b)))).put (i := 104) ((rp_up_n _ _ (by decide)).trans ((rp_up_n _ _ (by decide)).trans ((rp_up_n _ _ (by decide)).trans (hr.2.1 4 (by decide) (by decide) (by decide))))) (px_i 16 (upd (fa 4) (cs_n σ) (cs_hgt σ (nI b) (nI s))))).put (i := 103) ((rp_up_n _ _ (by decide)).trans ((rp_up_n _ _ (by decide)).trans ((rp_up_n _ _ (by decide)).trans ((rp_up_n _ _ (by decide)).trans (hr.2.1 3 (by decide) (by decide) (by decide)))))) (px_i 16 (upd (fa 3) (cs_n σ) (nI s)))).put (i := 100) ((rp_up_n _ _ (by decide)).trans ((rp_up_n _ _ (by decide)).trans ((rp_up_n _ _ (by decide)).trans ((rp_up_n _ _ (by decide)).trans (rp_up_s _ _ _))))) (px_o 4 [.int ((0 : Int32)), .int (nI (cs_nb σ)), .int (nI (cs_ti σ)), .int ((nI (cs_n σ)) + ((1 : Int32))), .ref (ad 101), .ref (ad 102), .ref (ad 103), .ref (ad 104), .ref (ad 105), .ref (ad 106), .int (fs 1), .int (fs 2), .ref (ad 107), .ref (ad 108), .ref (ad 109), .ref (ad 110), .ref (ad 111), .ref (ad 112), .ref (ad 113), .ref (ad 114), .ref (ad 115), .int (fs 3), .ref (ad 116), .ref (ad 117), .int (fs 4)]))
              have hr1 : Rl ad ((((cs_nb σ, cs_ti σ, cs_n σ + 1), (fun q => match q with | 0 => 0 | 1 => fs 1 | 2 => fs 2 | 3 => fs 3 | _ => fs 4), va_up (va_up (va_up (va_up fa 1 (upd (fa 1) (cs_n σ) z)) 2 (upd (fa 2) (cs_n σ) (nI b))) 4 (upd (fa 4) (cs_n σ) (cs_hgt σ (nI b) (nI s)))) 3 (upd (fa 3) (cs_n σ) (nI s)), fw) : rs_S)) (rp_up (rp_up (rp_up (rp_up (rp_up (rp_up (K) (100) (px_o 4 [.int ((0 : Int32)), .int (nI (cs_nb σ)), .int (nI (cs_ti σ)), .int (nI (cs_n σ)), .ref (ad 101), .ref (ad 102), .ref (ad 103), .ref (ad 104), .ref (ad 105), .ref (ad 106), .int (fs 1), .int (fs 2), .ref (ad 107), .ref (ad 108), .ref (ad 109), .ref (ad 110), .ref (ad 111), .ref (ad 112), .ref (ad 113), .ref (ad 114), .ref (ad 115), .int (fs 3), .ref (ad 116), .ref (ad 117), .int (fs 4)])) (101) (px_i 16 (upd (fa 1) (cs_n σ) (z)))) (102) (px_i 16 (upd (fa 2) (cs_n σ) (nI b)))) (104) (px_i 16 (upd (fa 4) (cs_n σ) (cs_hgt σ (nI b) (nI s))))) (103) (px_i 16 (upd (fa 3) (cs_n σ) (nI s)))) (100) (px_o 4 [.int ((0 : Int32)), .int (nI (cs_nb σ)), .int (nI (cs_ti σ)), .int ((nI (cs_n σ)) + ((1 : Int32))), .ref (ad 101), .ref (ad 102), .ref (ad 103), .ref (ad 104), .ref (ad 105), .ref (ad 106), .int (fs 1), .int (fs 2), .ref (ad 107), .ref (ad 108), .ref (ad 109), .ref (ad 110), .ref (ad 111), .ref (ad 112), .ref (ad 113), .ref (ad 114), .ref (ad 115), .int (fs 3), .ref (ad 116), .ref (ad 117), .int (fs 4)])) := by
                      rw [← nI_succ]
                      exact (((((hr.sO _ (fun q => match q with | 0 => 0 | 1 => fs 1 | 2 => fs 2 | 3 => fs 3 | _ => fs 4)).sA (q := 1) (by decide) (by decide) (by decide) _).sA (q := 2) (by decide) (by decide) (by decide) _).sA (q := 4) (by decide) (by decide) (by decide) _).sA (q := 3) (by decide) (by decide) (by decide) _).sO _ (fun q => match q with | 0 => 0 | 1 => fs 1 | 2 => fs 2 | 3 => fs 3 | _ => fs 4)
              have hK1 : ∀ zz, zz < 100 ∨ 118 ≤ zz → (rp_up (rp_up (rp_up (rp_up (rp_up (rp_up (K) (100) (px_o 4 [.int ((0 : Int32)), .int (nI (cs_nb σ)), .int (nI (cs_ti σ)), .int (nI (cs_n σ)), .ref (ad 101), .ref (ad 102), .ref (ad 103), .ref (ad 104), .ref (ad 105), .ref (ad 106), .int (fs 1), .int (fs 2), .ref (ad 107), .ref (ad 108), .ref (ad 109), .ref (ad 110), .ref (ad 111), .ref (ad 112), .ref (ad 113), .ref (ad 114), .ref (ad 115), .int (fs 3), .ref (ad 116), .ref (ad 117), .int (fs 4)])) (101) (px_i 16 (upd (fa 1) (cs_n σ) (z)))) (102) (px_i 16 (upd (fa 2) (cs_n σ) (nI b)))) (104) (px_i 16 (upd (fa 4) (cs_n σ) (cs_hgt σ (nI b) (nI s))))) (103) (px_i 16 (upd (fa 3) (cs_n σ) (nI s)))) (100) (px_o 4 [.int ((0 : Int32)), .int (nI (cs_nb σ)), .int (nI (cs_ti σ)), .int ((nI (cs_n σ)) + ((1 : Int32))), .ref (ad 101), .ref (ad 102), .ref (ad 103), .ref (ad 104), .ref (ad 105), .ref (ad 106), .int (fs 1), .int (fs 2), .ref (ad 107), .ref (ad 108), .ref (ad 109), .ref (ad 110), .ref (ad 111), .ref (ad 112), .ref (ad 113), .ref (ad 114), .ref (ad 115), .int (fs 3), .ref (ad 116), .ref (ad 117), .int (fs 4)])) zz = (K) zz := fun zz hzz => by rw [rp_up_n _ _ (by omega), rp_up_n _ _ (by omega), rp_up_n _ _ (by omega), rp_up_n _ _ (by omega), rp_up_n _ _ (by omega), rp_up_n _ _ (by omega)]
              iterate 3 refine px_go hX ?_
              refine ⟨_, (px_up_s _ _ _), 0, 0, _, Nat.le_of_ble_eq_true rfl, Nat.le_of_ble_eq_true rfl, Nat.le_of_ble_eq_true rfl, rr_voids2 (b := b) hR1 hr1 (by omega) rfl, ?_⟩
              rintro _ C ⟨rfl, K2, hR2, hr2, hK2⟩
              iterate 2 refine px_go hX ?_
              refine ⟨_, _, (hR2.1 100 _ hr2.1), rfl, ?_⟩
              iterate 3 refine px_go hX ?_
              have hq : of_box σ (nI b) (nI s) z = (0, nI (cs_n σ), cs_fp (cs_nw σ (fun q => match q with | 0 => z | 1 => nI b | 2 => nI s | 3 => cs_hgt σ (nI b) (nI s) | _ => 0)) b) := by
                unfold of_box
                rw [cs_bq_s2 hnb hb]
                refine (hgood b s hs3 b5).trans (if_neg ?_)
                rintro (q | q | q)
                · exact nI_ge hlt (by omega) q
                · rw [hbin] at q
                  exact c8 (by rw [hbin, show mc = 4 from Nat.le_antisymm hmc (nI_le4 q (by omega))]; rfl)
                · refine q ?_
                  rw [hhgt]
                  exact nI_lt (Nat.lt_of_le_of_ne hmh (fun w => c9 (by rw [hhgt, w]))) (by omega)
              rw [hq]
              have e7 : (va_up (va_up (va_up (va_up fa 1 (upd (fa 1) (cs_n σ) z)) 2 (upd (fa 2) (cs_n σ) (nI b))) 4 (upd (fa 4) (cs_n σ) (cs_hgt σ (nI b) (nI s)))) 3 (upd (fa 3) (cs_n σ) (nI s))) 7 = fa 7 := by rw [va_up_ne _ _ (by omega), va_up_ne _ _ (by omega), va_up_ne _ _ (by omega), va_up_ne _ _ (by omega)]
              have hr3 : Rl ad (((cs_nb σ, cs_ti σ, cs_n σ + 1), (fun q => match q with | 0 => 0 | 1 => fs 1 | 2 => fs 2 | 3 => fs 3 | _ => fs 4), (va_up (va_up (va_up (va_up (va_up fa 1 (upd (fa 1) (cs_n σ) z)) 2 (upd (fa 2) (cs_n σ) (nI b))) 4 (upd (fa 4) (cs_n σ) (cs_hgt σ (nI b) (nI s)))) 3 (upd (fa 3) (cs_n σ) (nI s))) 7 (upd (fa 7) b 0)), fw) : rs_S) K2 := by
                have q := hr2
                unfold rs_sA at q
                simp only [e7] at q
                exact q
              refine ⟨_, _, ⟨K2, hR2, hr3, fun zz hz => by rw [hK2 zz hz, hK1 zz hz]⟩, Sim.nw hs hlt _ rfl rfl rfl ?_ ?_ ?_ ?_ ?_ (fun q q1 q2 q3 q4 q7 => ?_), rfl, rfl, fun _ => ?_⟩
              · rw [va_up_ne _ _ (by omega), va_up_ne _ _ (by omega), va_up_ne _ _ (by omega), va_up_ne _ _ (by omega), va_up_self]; rfl
              · rw [va_up_ne _ _ (by omega), va_up_ne _ _ (by omega), va_up_ne _ _ (by omega), va_up_self]; rfl
              · rw [va_up_ne _ _ (by omega), va_up_self]; rfl
              · rw [va_up_ne _ _ (by omega), va_up_ne _ _ (by omega), va_up_self]; rfl
              · rw [va_up_self]
              · rw [va_up_ne _ _ q7, va_up_ne _ _ q3, va_up_ne _ _ q4, va_up_ne _ _ q2, va_up_ne _ _ q1]
              · exact nI_pred _
            · iterate 3 refine px_go hX ?_
              refine ⟨_, (hR.1 100 _ hr.1), 0, 0, _, Nat.le_of_ble_eq_true rfl, Nat.le_of_ble_eq_true rfl, Nat.le_of_ble_eq_true rfl, rr_refuse hR hr hs _, ?_⟩
              rintro _ C ⟨rfl, hC1⟩
              refine px_go hX ?_
              have hq : of_box σ (nI b) (nI s) z = (2, 0, σ) := by
                unfold of_box
                rw [cs_bq_s2 hnb hb]
                exact (hgood b s hs3 b5).trans (if_pos (Or.inr (Or.inr (by rw [c9]; exact Int32.lt_irrefl))))
              rw [hq]
              exact ⟨_, _, hC1, hs, rfl, rfl, fun h => absurd (show (2 : Nat) = 0 from h) (by decide)⟩
      · refine px_go hX ?_
        refine ⟨fun (c10 : ¬ 0 = 0) => absurd rfl c10, fun (c10 : 0 = 0) => ?_⟩
        iterate 3 refine px_go hX ?_
        refine ⟨_, (hR.1 100 _ hr.1), 0, 0, _, Nat.le_of_ble_eq_true rfl, Nat.le_of_ble_eq_true rfl, Nat.le_of_ble_eq_true rfl, rr_refuse hR hr hs _, ?_⟩
        rintro _ C ⟨rfl, hC1⟩
        refine px_go hX ?_
        have hq : of_box σ (nI b) (nI s) z = (1, 0, σ) := by
          unfold of_box
          rw [cs_bq_s2 hnb hb]
          exact if_pos (Classical.byContradiction (fun w => b5 ⟨fun q => w (Or.inr (Or.inr (Or.inl q))), fun q => w (Or.inr (Or.inr (Or.inr ((i32_5 _).mp q))))⟩))
        rw [hq]
        exact ⟨_, _, hC1, hs, rfl, rfl, fun h => absurd (show (1 : Nat) = 0 from h) (by decide)⟩
    · refine px_go hX ?_
      refine ⟨fun (c11 : 0 = 0) => ?_, fun (c11 : ¬ 0 = 0) => absurd rfl c11⟩
      iterate 3 refine px_go hX ?_
      refine ⟨_, (hR.1 100 _ hr.1), 0, 0, _, Nat.le_of_ble_eq_true rfl, Nat.le_of_ble_eq_true rfl, Nat.le_of_ble_eq_true rfl, rr_refuse hR hr hs _, ?_⟩
      rintro _ C ⟨rfl, hC1⟩
      refine px_go hX ?_
      have hq : of_box σ (nI b) y z = (1, 0, σ) := by
        unfold of_box
        rw [cs_bq_s2 hnb hb]
        exact if_pos (Classical.byContradiction (fun w => b3 ⟨fun q => w (Or.inl q), fun q => w (Or.inr (Or.inl ((i32_23 _).mp q)))⟩))
      rw [hq]
      exact ⟨_, _, hC1, hs, rfl, rfl, fun h => absurd (show (1 : Nat) = 0 from h) (by decide)⟩
  · refine px_go hX ?_
    refine ⟨fun (c12 : 0 = 0) => ?_, fun (c12 : ¬ 0 = 0) => absurd rfl c12⟩
    iterate 3 refine px_go hX ?_
    refine ⟨_, (hR.1 100 _ hr.1), 0, 0, _, Nat.le_of_ble_eq_true rfl, Nat.le_of_ble_eq_true rfl, Nat.le_of_ble_eq_true rfl, rr_refuse hR hr hs _, ?_⟩
    rintro _ C ⟨rfl, hC1⟩
    refine px_go hX ?_
    have hq : of_box σ x y z = (1, 0, σ) := by
      unfold of_box
      rw [cs_bq_n (px_nix b1)]
    rw [hq]
    exact ⟨_, _, hC1, hs, rfl, rfl, fun h => absurd (show (1 : Nat) = 0 from h) (by decide)⟩
end SI
