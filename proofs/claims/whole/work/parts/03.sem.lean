/-! A pure picture of the machine: cells, frames, and what an instruction asks of the states behind it. -/
/-- a cell: ints (kind of array first: 0 int, 2 boolean), longs, references (kind first), an object (class number, fields) -/
abbrev px_E : Type := (Nat × Nat × (Nat → Int32)) ⊕ (Nat × (Nat → Int64)) ⊕ (Nat × Nat × (Nat → Option Nat)) ⊕ (Nat × List Value)
abbrev px_i (n : Nat) (f : Nat → Int32) : px_E := .inl (0, n, f)
abbrev px_z (n : Nat) (f : Nat → Int32) : px_E := .inl (2, n, f)
abbrev px_j (n : Nat) (f : Nat → Int64) : px_E := .inr (.inl (n, f))
abbrev px_r (t n : Nat) (f : Nat → Option Nat) : px_E := .inr (.inr (.inl (t, n, f)))
abbrev px_o (ci : Nat) (fs : List Value) : px_E := .inr (.inr (.inr (ci, fs)))
abbrev px_P : Type := Nat → Option px_E
def px_up (C : px_P) (a : Nat) (e : px_E) : px_P := fun q => if q = a then some e else C q
theorem px_up_s (C : px_P) (a : Nat) (e : px_E) : px_up C a e a = some e := if_pos rfl
theorem px_up_n (C : px_P) {a q : Nat} (e : px_E) (h : q ≠ a) : px_up C a e q = C q := if_neg h
/-- pc, locals, stack, picture, cells made, slots made -/
abbrev px_S : Type := Nat × List (Nat × Value) × List Value × px_P × Nat × Nat
/-- name, class, bytes, locals, answer, instructions, pool, whether it reads the script, handlers, frames, words -/
abbrev px_M : Type := MethodName × String × ByteArray × Nat × Option FieldType × List (Nat × Instr × Nat) × List (Nat × Nat × Nat × Int) × Bool × List (Nat × Nat × Nat × Nat) × Nat × Nat
abbrev px_co (M : px_M) : List (Nat × Instr × Nat) := M.2.2.2.2.2.1
abbrev px_po (M : px_M) : List (Nat × Nat × Nat × Int) := M.2.2.2.2.2.2.1
abbrev px_fl (M : px_M) : Bool := M.2.2.2.2.2.2.2.1
abbrev px_hh (M : px_M) : List (Nat × Nat × Nat × Nat) := M.2.2.2.2.2.2.2.2.1
abbrev px_fr (M : px_M) : Nat := M.2.2.2.2.2.2.2.2.2.1
abbrev px_lo (M : px_M) : Nat := M.2.2.2.2.2.2.2.2.2.2
/-- the classes' own words: field types, defaults, class of an array's elements, number of kinds of arrays -/
abbrev px_L : Type := (Nat → Nat → FieldType) × (Nat → List Value) × (Nat → Nat) × Nat
def px_lk : List (Nat × Value) → Nat → Option Value
  | [], _ => none
  | (j, v) :: r, i => bif Nat.beq j i then some v else px_lk r i
def px_s1 (L : List (Nat × Value)) (i : Nat) (v : Value) : List (Nat × Value) := (i, v) :: L.filter (fun q => !(q.1 == i) && !(q.1 + 1 == i && q.2.category == 2))
def px_s2 (L : List (Nat × Value)) (i : Nat) (v : Value) : List (Nat × Value) := (i, v) :: L.filter (fun q => !(q.1 == i) && (!(q.1 == i + 1) && !(q.1 + 1 == i && q.2.category == 2)))
def px_ft : List (Nat × Instr × Nat) → Nat → Option Instr
  | [], _ => none
  | (j, v, _) :: r, i => bif Nat.beq j i then some v else px_ft r i
def px_pl : List (Nat × Nat × Nat × Int) → Nat → Option (Nat × Nat × Int)
  | [], _ => none
  | (j, v) :: r, i => bif Nat.beq j i then some v else px_pl r i
def px_ic (v : Int) : Int32 := match v with
  | .ofNat n => nI n
  | .negSucc n => - nI (n + 1)
def px_jc (v : Int) : Int64 := match v with
  | .ofNat n => lN n
  | .negSucc n => - lN (n + 1)
def px_tg (pc : Nat) (off : Int) : Nat := ((pc : Int) + off).toNat
def px_len (C : px_P) (nt a : Nat) : Option Nat := match C a with
  | some (.inl (0, n, _)) => some n
  | some (.inr (.inl (n, _))) => some n
  | some (.inr (.inr (.inl (t, n, _)))) => bif Nat.ble 3 t && Nat.blt t nt then some n else none
  | _ => none
def px_c0 (c : ClassFile.Cond) (x : Int32) (A B : Prop) : Prop := match c with
  | .eq => (x = 0 → A) ∧ (¬ x = 0 → B)
  | .ne => (¬ x = 0 → A) ∧ (x = 0 → B)
  | .lt => (x < 0 → A) ∧ (¬ x < 0 → B)
  | .ge => (0 ≤ x → A) ∧ (¬ 0 ≤ x → B)
  | .gt => (0 < x → A) ∧ (¬ 0 < x → B)
  | .le => (x ≤ 0 → A) ∧ (¬ x ≤ 0 → B)
def px_c2 (c : ClassFile.Cond) (x y : Int32) (A B : Prop) : Prop := match c with
  | .eq => (x = y → A) ∧ (¬ x = y → B)
  | .ne => (¬ x = y → A) ∧ (x = y → B)
  | .lt => (x < y → A) ∧ (¬ x < y → B)
  | .ge => (y ≤ x → A) ∧ (¬ y ≤ x → B)
  | .gt => (y < x → A) ∧ (¬ y < x → B)
  | .le => (x ≤ y → A) ∧ (¬ x ≤ y → B)
/-- a switch over a run of numbers, from 'lo' on -/
def px_sw (pc : Nat) (x : Int32) (G : Nat → Prop) (d : Int) : Nat → List Int → Prop
  | _, [] => G (px_tg pc d)
  | lo, o :: r => (x = nI lo → G (px_tg pc o)) ∧ (¬ x = nI lo → px_sw pc x G d (lo + 1) r)
def px_cat (st : List Value) : Nat := (st.map fun v => v.category).sum
abbrev px_Cal : Type := Nat → List Value → px_P → Nat → Nat → (Option Value → px_P → Prop) → (Nat → px_P → Prop) → Prop
def px_sc (sc : Option (Nat × Nat × (Nat → Int32))) (A : Prop) (f : Nat → Nat → (Nat → Int32) → Prop) : Prop := match sc with | none => A | some (b, M, xs) => f b M xs
/-- the pool's class at ix is that of the thrown kind kd -/
def px_isk (pool : List (Nat × Nat × Nat × Int)) (ix kd : Nat) : Bool := match px_pl pool ix with
  | some (k + 30, _, _) => Nat.beq k kd
  | _ => false
/-- the handler of what is thrown at pc -/
def px_hd (pool : List (Nat × Nat × Nat × Int)) (pc kd : Nat) (f : Nat → Prop) : List (Nat × Nat × Nat × Nat) → Prop
  | [] => False
  | (a, b, h, ix) :: r => bif Nat.ble a pc && Nat.blt pc b && px_isk pool ix kd then f h else px_hd pool pc kd f r
-- what stands in a local, on the stack, in the pool
def px_ai (o : Option Value) (f : Int32 → Prop) : Prop := match o with | some (.int x) => f x | _ => False
def px_aj (o : Option Value) (f : Int64 → Prop) : Prop := match o with | some (.long x) => f x | _ => False
def px_aa (o : Option Value) (f : Value → Prop) : Prop := match o with | some (.ref x) => f (.ref x) | some .null => f .null | _ => False
def px_si (st : List Value) (f : Int32 → List Value → Prop) : Prop := match st with | .int x :: r => f x r | _ => False
def px_sj (st : List Value) (f : Int64 → List Value → Prop) : Prop := match st with | .long x :: r => f x r | _ => False
def px_sr (st : List Value) (f : Nat → List Value → Prop) : Prop := match st with | .ref a :: r => f a r | _ => False
def px_sa (st : List Value) (f : Value → List Value → Prop) : Prop := match st with | .ref a :: r => f (.ref a) r | .null :: r => f .null r | _ => False
def px_sn (st : List Value) (f g : List Value → Prop) : Prop := match st with | .null :: r => f r | .ref _ :: r => g r | _ => False
def px_sv (st : List Value) (f : Value → List Value → Prop) : Prop := match st with | .int x :: r => f (.int x) r | .ref a :: r => f (.ref a) r | _ => False
def px_sii (st : List Value) (f : Int32 → Int32 → List Value → Prop) : Prop := match st with | .int y :: .int x :: r => f x y r | _ => False
def px_sjj (st : List Value) (f : Int64 → Int64 → List Value → Prop) : Prop := match st with | .long y :: .long x :: r => f x y r | _ => False
def px_sij (st : List Value) (f : Int64 → Int32 → List Value → Prop) : Prop := match st with | .int y :: .long x :: r => f x y r | _ => False
def px_sir (st : List Value) (f : Int32 → Nat → List Value → Prop) : Prop := match st with | .int x :: .ref a :: r => f x a r | _ => False
def px_siv (st : List Value) (f : Int32 → Value → List Value → Prop) : Prop := match st with | .int y :: .int x :: r => f y (.int x) r | .int y :: .ref x :: r => f y (.ref x) r | _ => False
def px_siir (st : List Value) (f : Int32 → Int32 → Nat → List Value → Prop) : Prop := match st with | .int v :: .int x :: .ref a :: r => f v x a r | _ => False
def px_sjir (st : List Value) (f : Int64 → Int32 → Nat → List Value → Prop) : Prop := match st with | .long v :: .int x :: .ref a :: r => f v x a r | _ => False
def px_srir (st : List Value) (f : Nat → Int32 → Nat → List Value → Prop) : Prop := match st with | .ref v :: .int x :: .ref a :: r => f v x a r | _ => False
def px_svr (st : List Value) (f : Value → Nat → List Value → Prop) : Prop := match st with | v :: .ref a :: r => f v a r | _ => False
def px_s1v (st : List Value) (f : Int32 → Prop) : Prop := match st with | [.int v] => f v | _ => False
def px_s1l (st : List Value) (f : Int64 → Prop) : Prop := match st with | [.long v] => f v | _ => False
def px_s1a (st : List Value) (f : Value → Prop) : Prop := match st with | [.ref a] => f (.ref a) | [.null] => f .null | _ => False
def px_s0 (st : List Value) (f : Prop) : Prop := match st with | [] => f | _ => False
def px_rt (ret : Option FieldType) (v : Int32) (f : Prop) : Prop := match ret with | some .int => f | some .boolean => (v = 0 ∨ v = 1) ∧ f | _ => False
def px_ra (ret : Option FieldType) (f : Prop) : Prop := match ret with | some (.object _) => f | some (.array _) => f | _ => False
def px_rl (ret : Option FieldType) (f : Prop) : Prop := match ret with | some .long => f | _ => False
def px_rv (ret : Option FieldType) (f : Prop) : Prop := match ret with | none => f | _ => False
def px_pf (o : Option (Nat × Nat × Int)) (f : Nat → Nat → Prop) : Prop := match o with | some (0, ci, kf) => f ci kf.toNat | _ => False
def px_pn (o : Option (Nat × Nat × Int)) (f g : Nat → Nat → Prop) : Prop := match o with | some (2, ci, N) => f ci N.toNat | some (8, kd, N) => g kd N.toNat | _ => False
def px_pa (o : Option (Nat × Nat × Int)) (f : Nat → Prop) : Prop := match o with | some (3, t, _) => f t | _ => False
def px_pc (o : Option (Nat × Nat × Int)) (f : Int → Prop) : Prop := match o with | some (4, _, v) => f v | _ => False
def px_pj (o : Option (Nat × Nat × Int)) (f : Int → Prop) : Prop := match o with | some (9, _, v) => f v | _ => False
def px_ps (o : Option (Nat × Nat × Int)) (A : Prop) (f : Nat → Nat → Prop) : Prop := match o with | some (6, _, _) => A | some (1, j, np) => f j np.toNat | _ => False
def px_pv (o : Option (Nat × Nat × Int)) (f g : Nat → Nat → Nat → Prop) : Prop := match o with | some (_ + 30, _, _) => False | some (t + 20, j, np) => g t j np.toNat | some (t + 10, j, np) => f t j np.toNat | _ => False
def px_pt (o : Option (Nat × Nat × Int)) (A B : Prop) (f : Nat → Nat → Prop) : Prop := match o with | some (7, 0, _) => A | some (7, 1, _) => B | some (5, j, np) => f j np.toNat | _ => False
def px_at (t : ArrayType) (A B Z : Prop) : Prop := match t with | .int => A | .long => B | .boolean => Z | _ => False
/-- a call: what its callee must do, and how it goes on -/
def px_cl (cal : px_Cal) (mc ms k n j : Nat) (av rest : List Value) (C : px_P) (X : List Value → px_P → Nat → Nat → Prop) : Prop :=
  ∃ mc' ms' Po', k + mc' ≤ mc ∧ n + ms' ≤ ms ∧ px_cat rest ≤ 8 ∧ cal j av C mc' ms' Po' (fun _ _ => False) ∧ ∀ v C', Po' v C' → X (v.toList ++ rest) C' (k + mc') (n + ms')
/-- a call whose callee may throw -/
def px_ct (cal : px_Cal) (mc ms k n j : Nat) (av rest : List Value) (C : px_P) (pool : List (Nat × Nat × Nat × Int)) (hh : List (Nat × Nat × Nat × Nat)) (pc : Nat) (X : List Value → px_P → Nat → Nat → Prop) (Z : Nat → List Value → px_P → Nat → Nat → Prop) : Prop :=
  ∃ mc' ms' Po' Pt', k + mc' ≤ mc ∧ n + ms' ≤ ms ∧ px_cat rest ≤ 8 ∧ cal j av C mc' ms' Po' Pt' ∧ (∀ v C', Po' v C' → X (v.toList ++ rest) C' (k + mc') (n + ms')) ∧ ∀ kd C' q, Pt' kd C' → px_hd pool pc kd (fun h => Z h [.ref q] C' (k + mc') (n + ms')) hh
/-- what one instruction asks, so that the states behind it lie in X -/
def px_I (cal : px_Cal) (Y : px_L) (B mc ms : Nat) (sc : Option (Nat × Nat × (Nat → Int32))) (ret : Option FieldType) (pool : List (Nat × Nat × Nat × Int)) (hh : List (Nat × Nat × Nat × Nat)) (Po : Option Value → px_P → Prop) (Pt : Nat → px_P → Prop) (X : px_S → Prop)
    (i : Instr) (pc : Nat) (L : List (Nat × Value)) (st : List Value) (C : px_P) (k n : Nat) : Prop :=
  match i with
  | .aconst_null => X (pc + 1, L, .null :: st, C, k, n)
  | .iconst v => X (pc + 1, L, .int (px_ic v) :: st, C, k, n)
  | .bipush v => X (pc + 2, L, .int (px_ic v) :: st, C, k, n)
  | .sipush v => X (pc + 3, L, .int (px_ic v) :: st, C, k, n)
  | .lconst v => X (pc + 1, L, .long (lN v.val) :: st, C, k, n)
  | .ldc2_w idx => px_pj (px_pl pool idx) fun v => X (pc + 3, L, .long (px_jc v) :: st, C, k, n)
  | .ldc idx => px_pc (px_pl pool idx) fun v => X (pc + 2, L, .int (px_ic v) :: st, C, k, n)
  | .iload a => px_ai (px_lk L a) fun x => X (pc + 2, L, .int x :: st, C, k, n)
  | .iload_n a => px_ai (px_lk L a.val) fun x => X (pc + 1, L, .int x :: st, C, k, n)
  | .lload a => px_aj (px_lk L a) fun x => X (pc + 2, L, .long x :: st, C, k, n)
  | .lload_n a => px_aj (px_lk L a.val) fun x => X (pc + 1, L, .long x :: st, C, k, n)
  | .aload a => px_aa (px_lk L a) fun x => X (pc + 2, L, x :: st, C, k, n)
  | .aload_n a => px_aa (px_lk L a.val) fun x => X (pc + 1, L, x :: st, C, k, n)
  | .istore a => px_si st fun x r => X (pc + 2, px_s1 L a (.int x), r, C, k, n)
  | .istore_n a => px_si st fun x r => X (pc + 1, px_s1 L a.val (.int x), r, C, k, n)
  | .lstore a => px_sj st fun x r => X (pc + 2, px_s2 L a (.long x), r, C, k, n)
  | .lstore_n a => px_sj st fun x r => X (pc + 1, px_s2 L a.val (.long x), r, C, k, n)
  | .astore a => px_sa st fun x r => X (pc + 2, px_s1 L a x, r, C, k, n)
  | .astore_n a => px_sa st fun x r => X (pc + 1, px_s1 L a.val x, r, C, k, n)
  | .iinc a v => px_ai (px_lk L a) fun x => X (pc + 3, px_s1 L a (.int (x + px_ic v)), st, C, k, n)
  | .iadd => px_sii st fun x y r => X (pc + 1, L, .int (x + y) :: r, C, k, n)
  | .isub => px_sii st fun x y r => X (pc + 1, L, .int (x - y) :: r, C, k, n)
  | .imul => px_sii st fun x y r => X (pc + 1, L, .int (x * y) :: r, C, k, n)
  | .iand => px_sii st fun x y r => X (pc + 1, L, .int (x &&& y) :: r, C, k, n)
  | .ior => px_sii st fun x y r => X (pc + 1, L, .int (x ||| y) :: r, C, k, n)
  | .ixor => px_sii st fun x y r => X (pc + 1, L, .int (x ^^^ y) :: r, C, k, n)
  | .ishl => px_sii st fun x y r => X (pc + 1, L, .int (x <<< (y &&& 31)) :: r, C, k, n)
  | .ishr => px_sii st fun x y r => X (pc + 1, L, .int (x >>> (y &&& 31)) :: r, C, k, n)
  | .iushr => px_sii st fun x y r => X (pc + 1, L, .int ((x.toUInt32 >>> (y.toUInt32 &&& Int32.toUInt32 31)).toInt32) :: r, C, k, n)
  | .idiv => px_sii st fun x y r => ¬ y = 0 ∧ X (pc + 1, L, .int (x / y) :: r, C, k, n)
  | .irem => px_sii st fun x y r => ¬ y = 0 ∧ X (pc + 1, L, .int (x - x / y * y) :: r, C, k, n)
  | .ineg => px_si st fun x r => X (pc + 1, L, .int (-x) :: r, C, k, n)
  | .ladd => px_sjj st fun x y r => X (pc + 1, L, .long (x + y) :: r, C, k, n)
  | .lsub => px_sjj st fun x y r => X (pc + 1, L, .long (x - y) :: r, C, k, n)
  | .lmul => px_sjj st fun x y r => X (pc + 1, L, .long (x * y) :: r, C, k, n)
  | .land => px_sjj st fun x y r => X (pc + 1, L, .long (x &&& y) :: r, C, k, n)
  | .lor => px_sjj st fun x y r => X (pc + 1, L, .long (x ||| y) :: r, C, k, n)
  | .lxor => px_sjj st fun x y r => X (pc + 1, L, .long (x ^^^ y) :: r, C, k, n)
  | .lshl => px_sij st fun x y r => X (pc + 1, L, .long (x <<< (y.toInt64 &&& 63)) :: r, C, k, n)
  | .lshr => px_sij st fun x y r => X (pc + 1, L, .long (x >>> (y.toInt64 &&& 63)) :: r, C, k, n)
  | .lushr => px_sij st fun x y r => X (pc + 1, L, .long ((x.toUInt64 >>> (y.toInt64.toUInt64 &&& Int64.toUInt64 63)).toInt64) :: r, C, k, n)
  | .i2l => px_si st fun x r => X (pc + 1, L, .long x.toInt64 :: r, C, k, n)
  | .l2i => px_sj st fun x r => X (pc + 1, L, .int x.toInt32 :: r, C, k, n)
  | .lcmp => px_sjj st fun x y r => X (pc + 1, L, .int (lg_cmp x y) :: r, C, k, n)
  | .dup => px_sv st fun x r => X (pc + 1, L, x :: x :: r, C, k, n)
  | .dup2 => px_siv st fun y x r => X (pc + 1, L, .int y :: x :: .int y :: x :: r, C, k, n)
  | .dup_x1 => px_siv st fun y x r => X (pc + 1, L, .int y :: x :: .int y :: r, C, k, n)
  | .pop => px_sv st fun _ r => X (pc + 1, L, r, C, k, n)
  | .ifCond c off => px_si st fun x r => px_c0 c x (X (px_tg pc off, L, r, C, k, n)) (X (pc + 3, L, r, C, k, n))
  | .if_icmp c off => px_sii st fun x y r => px_c2 c x y (X (px_tg pc off, L, r, C, k, n)) (X (pc + 3, L, r, C, k, n))
  | .ifnull off => px_sn st (fun r => X (px_tg pc off, L, r, C, k, n)) (fun r => X (pc + 3, L, r, C, k, n))
  | .ifnonnull off => px_sn st (fun r => X (pc + 3, L, r, C, k, n)) (fun r => X (px_tg pc off, L, r, C, k, n))
  | .goto off => X (px_tg pc off, L, st, C, k, n)
  | .tableswitch d lo _ offs => px_si st fun x r => px_sw pc x (fun t => X (t, L, r, C, k, n)) d lo.toNat offs.toList
  | .getfield idx => px_pf (px_pl pool idx) fun ci kf => px_sr st fun a r => ∃ fs v, C a = some (px_o ci fs) ∧ fs[kf]? = some v ∧ X (pc + 3, L, v :: r, C, k, n)
  | .putfield idx => px_pf (px_pl pool idx) fun ci kf => px_svr st fun v a r => ∃ fs, C a = some (px_o ci fs) ∧ kf < fs.length ∧ narrow (Y.1 ci kf) v = v ∧ fits (Y.1 ci kf) v = true ∧ X (pc + 3, L, r, px_up C a (px_o ci (fs.set kf v)), k, n)
  | .iaload => px_sir st fun x a r => px_sc sc (∃ m f, C a = some (px_i m f) ∧ vp_in x m ∧ X (pc + 1, L, .int (f x.toNatClampNeg) :: r, C, k, n)) (fun b M xs => a = b ∧ vp_in x M ∧ X (pc + 1, L, .int (xs x.toNatClampNeg) :: r, C, k, n))
  | .iastore => px_siir st fun v x a r => ∃ m f, C a = some (px_i m f) ∧ vp_in x m ∧ X (pc + 1, L, r, px_up C a (px_i m (upd f x.toNatClampNeg v)), k, n)
  | .baload => px_sir st fun x a r => ∃ m f, C a = some (px_z m f) ∧ vp_in x m ∧ X (pc + 1, L, .int (f x.toNatClampNeg) :: r, C, k, n)
  | .bastore => px_siir st fun v x a r => ∃ m f, C a = some (px_z m f) ∧ vp_in x m ∧ X (pc + 1, L, r, px_up C a (px_z m (upd f x.toNatClampNeg (vp_nar .boolean v))), k, n)
  | .laload => px_sir st fun x a r => ∃ m f, C a = some (px_j m f) ∧ vp_in x m ∧ X (pc + 1, L, .long (f x.toNatClampNeg) :: r, C, k, n)
  | .lastore => px_sjir st fun v x a r => ∃ m f, C a = some (px_j m f) ∧ vp_in x m ∧ X (pc + 1, L, r, px_up C a (px_j m (vp_updL f x.toNatClampNeg v)), k, n)
  | .aaload => px_sir st fun x a r => ∃ t m f, C a = some (px_r t m f) ∧ (3 ≤ t ∧ t < Y.2.2.2) ∧ vp_in x m ∧ X (pc + 1, L, va_rf (f x.toNatClampNeg) :: r, C, k, n)
  | .aastore => px_srir st fun v x a r => ∃ t m f vs, C a = some (px_r t m f) ∧ (3 ≤ t ∧ t < Y.2.2.2) ∧ vp_in x m ∧ C v = some (px_o (Y.2.2.1 t) vs) ∧ X (pc + 1, L, r, px_up C a (px_r t m (va_up f x.toNatClampNeg (some v))), k, n)
  | .arraylength => px_sr st fun a r => px_sc sc (∃ m, px_len C Y.2.2.2 a = some m ∧ X (pc + 1, L, .int (nI m) :: r, C, k, n)) (fun b M _ => a = b ∧ X (pc + 1, L, .int (nI M) :: r, C, k, n))
  | .new idx => px_pn (px_pl pool idx) (fun ci N => k + 1 ≤ mc ∧ n + N ≤ ms ∧ ∀ q, C q = none → B ≤ q → X (pc + 3, L, .ref q :: st, px_up C q (px_o ci (Y.2.1 ci)), k + 1, n + N)) (fun kd _ => k + 1 ≤ mc ∧ n + 6 ≤ ms ∧ st = [] ∧ Pt kd C)
  | .newarray ty => px_si st fun x r => ¬ x < 0 ∧ x.toNatClampNeg ≤ 65536 ∧ k + 1 ≤ mc ∧ n + x.toNatClampNeg ≤ ms ∧ px_at ty (∀ q, C q = none → B ≤ q → X (pc + 2, L, .ref q :: r, px_up C q (px_i x.toNatClampNeg (fun _ => 0)), k + 1, n + x.toNatClampNeg)) (∀ q, C q = none → B ≤ q → X (pc + 2, L, .ref q :: r, px_up C q (px_j x.toNatClampNeg (fun _ => 0)), k + 1, n + x.toNatClampNeg)) (∀ q, C q = none → B ≤ q → X (pc + 2, L, .ref q :: r, px_up C q (px_z x.toNatClampNeg (fun _ => 0)), k + 1, n + x.toNatClampNeg))
  | .anewarray idx => px_pa (px_pl pool (idx + 65536)) fun t => px_si st fun x r => ¬ x < 0 ∧ x.toNatClampNeg ≤ 65536 ∧ k + 1 ≤ mc ∧ n + x.toNatClampNeg ≤ ms ∧ ∀ q, C q = none → B ≤ q → X (pc + 3, L, .ref q :: r, px_up C q (px_r t x.toNatClampNeg (fun _ => none)), k + 1, n + x.toNatClampNeg)
  | .invokespecial idx => px_ps (px_pl pool idx) (px_sr st fun _ r => px_cat r ≤ 8 ∧ X (pc + 3, L, r, C, k, n)) (fun j np => px_sr (st.drop np) fun b r => px_cl cal mc ms k n j (.ref b :: (st.take np).reverse) r C fun st' C' k' n' => X (pc + 3, L, st', C', k', n'))
  | .invokevirtual idx => px_pv (px_pl pool idx) (fun ci j np => px_sr (st.drop np) fun b r => ∃ fs, C b = some (px_o ci fs) ∧ px_cl cal mc ms k n j (.ref b :: (st.take np).reverse) r C fun st' C' k' n' => X (pc + 3, L, st', C', k', n')) (fun ci j np => px_sr (st.drop np) fun b r => ∃ fs, C b = some (px_o ci fs) ∧ px_ct cal mc ms k n j (.ref b :: (st.take np).reverse) r C pool hh pc (fun st' C' k' n' => X (pc + 3, L, st', C', k', n')) (fun h st' C' k' n' => X (h, L, st', C', k', n')))
  | .invokestatic idx => px_pt (px_pl pool idx) (px_sii st fun x y r => px_cat r ≤ 8 ∧ X (pc + 3, L, .int (if x < y then y else x) :: r, C, k, n)) (px_sii st fun x y r => px_cat r ≤ 8 ∧ X (pc + 3, L, .int (if y < x then y else x) :: r, C, k, n)) (fun j np => np ≤ st.length ∧ px_cl cal mc ms k n j (st.take np).reverse (st.drop np) C fun st' C' k' n' => X (pc + 3, L, st', C', k', n'))
  | .ireturn => px_s1v st fun v => px_rt ret v (Po (some (.int v)) C)
  | .lreturn => px_s1l st fun v => px_rl ret (Po (some (.long v)) C)
  | .areturn => px_s1a st fun v => px_ra ret (Po (some v) C)
  | .return_ => px_s0 st (px_rv ret (Po none C))
  | _ => False
