/-- the law's body, in the pure picture: on the script xs of L ints at the cell b it comes to its end with 1 -/
def px_LawG (B b L : Nat) (xs : Nat → Int32) : Prop := ∀ X : px_S → Prop, (∀ s, px_T (px_W ps_Y ps_P B (some (b, L, xs)) 9) ps_Y B 601024 7293000 (some (b, L, xs)) pm_Law_law (fun v _ => v = some (.int 1)) (fun _ _ => False) X s → X s) → X (0, [(0, .ref b)], [], fun _ => none, 0, 0)
