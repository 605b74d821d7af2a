/-- the law's body, in the pure picture: on the script xs of L ints at the cell b it comes to its end with 1 -/
def px_LawG (B b L : Nat) (xs : Nat → Int32) : Prop := ∀ X : px_S → Prop, px_wk X → (∀ s, px_T (px_W ps_Y ps_P B (some (b, L, xs)) 9) ps_Y B 601024 7293000 (some (b, L, xs)) pm_Law_law (fun v _ => v = some (.int 1)) (fun _ _ => False) X s → X s) → X (0, [(0, .ref b)], [], fun _ => none, 0, 0)
/-- one instruction, by its parts -/
def px_Tc (cal : px_Cal) (Y : px_L) (B mc ms : Nat) (sc : Option (Nat × Nat × (Nat → Int32))) (M : px_M) (Po : Option Value → px_P → Prop) (Pt : Nat → px_P → Prop) (X : px_S → Prop) (pc : Nat) (L : List (Nat × Value)) (st : List Value) (C : px_P) (k n : Nat) : Prop :=
  match px_ft (px_co M) pc with
  | some i => px_I cal Y B mc ms sc M.2.2.2.2.1 (px_po M) (px_hh M) Po Pt X i pc L st C k n
  | none => False
theorem px_go {cal : px_Cal} {Y : px_L} {B mc ms : Nat} {sc : Option (Nat × Nat × (Nat → Int32))} {M : px_M} {Po : Option Value → px_P → Prop} {Pt : Nat → px_P → Prop} {X : px_S → Prop} (hX : ∀ s, px_T cal Y B mc ms sc M Po Pt X s → X s) {pc : Nat} {L : List (Nat × Value)} {st : List Value} {C : px_P} {k n : Nat} (h : px_Tc cal Y B mc ms sc M Po Pt X pc L st C k n) : X (pc, L, st, C, k, n) := hX _ h
