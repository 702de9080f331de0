/-! THE ABSTRACT MACHINE. Values: ints, longs, references (region, id). A heap: how many ids a region has, lengths, ints, longs, references by region, id, slot; cells, slots made. -/
abbrev AV : Type := Int32 ⊕ (Int64 ⊕ (Nat × Option Nat))
abbrev Hp : Type := (Nat → Nat) × (Nat → Nat → Nat) × (Nat → Nat → Nat → Int32) × (Nat → Nat → Nat → Int64) × (Nat → Nat → Nat → Option Nat) × Nat × Nat
abbrev jN (h : Hp) : Nat → Nat := h.1
abbrev jLen (h : Hp) : Nat → Nat → Nat := h.2.1
abbrev jI (h : Hp) : Nat → Nat → Nat → Int32 := h.2.2.1
abbrev jL (h : Hp) : Nat → Nat → Nat → Int64 := h.2.2.2.1
abbrev jR (h : Hp) : Nat → Nat → Nat → Option Nat := h.2.2.2.2.1
abbrev jC (h : Hp) : Nat := h.2.2.2.2.2.1
abbrev jZ (h : Hp) : Nat := h.2.2.2.2.2.2
abbrev vI (x : Int32) : AV := .inl x
abbrev vL (x : Int64) : AV := .inr (.inl x)
abbrev vR (t : Nat) (o : Option Nat) : AV := .inr (.inr (t, o))
abbrev un : AV := .inr (.inr (999, none))
abbrev nul : AV := .inr (.inr (998, none))
def up3 {α : Type} (f : Nat → Nat → Nat → α) (t a k : Nat) (v : α) : Nat → Nat → Nat → α := fun t' a' k' => if t' = t ∧ a' = a ∧ k' = k then v else f t' a' k'
def wI (h : Hp) (t a k : Nat) (v : Int32) : Hp := (jN h, jLen h, up3 (jI h) t a k v, jL h, jR h, jC h, jZ h)
def wL (h : Hp) (t a k : Nat) (v : Int64) : Hp := (jN h, jLen h, jI h, up3 (jL h) t a k v, jR h, jC h, jZ h)
def wR (h : Hp) (t a k : Nat) (v : Option Nat) : Hp := (jN h, jLen h, jI h, jL h, up3 (jR h) t a k v, jC h, jZ h)
/-- one more cell in region t, of length n, sl slots -/
def mk (h : Hp) (t n sl : Nat) : Hp := (fun t' => if t' = t then jN h t + 1 else jN h t', fun t' a' => if t' = t ∧ a' = jN h t then n else jLen h t' a', fun t' a' k => if t' = t ∧ a' = jN h t then 0 else jI h t' a' k, fun t' a' k => if t' = t ∧ a' = jN h t then 0 else jL h t' a' k, fun t' a' k => if t' = t ∧ a' = jN h t then none else jR h t' a' k, jC h + 1, jZ h + sl)
def gt : List AV → Nat → Option AV
  | [], _ => none
  | v :: _, 0 => some v
  | _ :: r, n + 1 => gt r n
def stt : List AV → Nat → AV → List AV
  | [], _, _ => []
  | _ :: r, 0, w => w :: r
  | v :: r, n + 1, w => v :: stt r n w
def lk {α : Type} : List (Nat × α) → Nat → Option α
  | [], _ => none
  | (k, v) :: r, n => match Nat.beq k n with
    | true => some v
    | false => lk r n
def lk2 {α : Type} : List (Nat × Nat × α) → Nat → Nat → Option α
  | [], _, _ => none
  | (a, b, v) :: r, m, n => match Nat.beq a m, Nat.beq b n with
    | true, true => some v
    | _, _ => lk2 r m n
/-- a value of one word is stored; the second half of a long is not torn off -/
def st1 (ls : List AV) (i : Nat) (v : AV) : Option (List AV) := match gt ls i with
  | none => none
  | some _ => match i with
    | 0 => some (stt ls 0 v)
    | j + 1 => match gt ls j with
      | some (.inr (.inl _)) => none
      | _ => some (stt ls (j + 1) v)
def st2 (ls : List AV) (i : Nat) (v : AV) : Option (List AV) := match gt ls (i + 1) with
  | none => none
  | some _ => match i with
    | 0 => some (stt (stt ls 0 v) 1 un)
    | j + 1 => match gt ls j with
      | some (.inr (.inl _)) => none
      | _ => some (stt (stt ls (j + 1) v) (j + 2) un)
def ldI (ls : List AV) (k : Nat) : Option AV := match gt ls k with
  | some (.inl x) => some (.inl x)
  | _ => none
def ldJ (ls : List AV) (k : Nat) : Option AV := match gt ls k with
  | some (.inr (.inl x)) => some (.inr (.inl x))
  | _ => none
def ldA (ls : List AV) (k : Nat) : Option AV := match gt ls k with
  | some (.inr (.inr (t, o))) => match Nat.beq t 999 with
    | true => none
    | false => some (.inr (.inr (t, o)))
  | _ => none
def toI (ls : List AV) (k : Nat) (st : List AV) (d pc : Nat) : Option (Nat × List AV × List AV) := match st with
  | .inl x :: r => (st1 ls k (.inl x)).map (fun l => (pc + d, l, r))
  | _ => none
def toJ (ls : List AV) (k : Nat) (st : List AV) (d pc : Nat) : Option (Nat × List AV × List AV) := match st with
  | .inr (.inl x) :: r => (st2 ls k (.inr (.inl x))).map (fun l => (pc + d, l, r))
  | _ => none
def toA (ls : List AV) (k : Nat) (st : List AV) (d pc : Nat) : Option (Nat × List AV × List AV) := match st with
  | .inr (.inr (t, o)) :: r => (st1 ls k (.inr (.inr (t, o)))).map (fun l => (pc + d, l, r))
  | _ => none
def bI (f : Int32 → Int32 → Int32) (pc : Nat) (ls st : List AV) : Option (Nat × List AV × List AV) := match st with
  | .inl y :: .inl x :: r => some (pc + 1, ls, .inl (f x y) :: r)
  | _ => none
def bJ (f : Int64 → Int64 → Int64) (pc : Nat) (ls st : List AV) : Option (Nat × List AV × List AV) := match st with
  | .inr (.inl y) :: .inr (.inl x) :: r => some (pc + 1, ls, .inr (.inl (f x y)) :: r)
  | _ => none
def uI (f : Int32 → Int32) (pc : Nat) (ls st : List AV) : Option (Nat × List AV × List AV) := match st with
  | .inl x :: r => some (pc + 1, ls, .inl (f x) :: r)
  | _ => none
def shJ (f : Int64 → Int32 → Int64) (pc : Nat) (ls st : List AV) : Option (Nat × List AV × List AV) := match st with
  | .inl y :: .inr (.inl x) :: r => some (pc + 1, ls, .inr (.inl (f x y)) :: r)
  | _ => none
def push (pc d : Nat) (ls : List AV) (v : Option AV) (st : List AV) : Option (Nat × List AV × List AV) := match v with
  | some v => some (pc + d, ls, v :: st)
  | none => none
def jto (pc : Nat) (off : Int) : Option Nat := match (pc : Int) + off with
  | .ofNat t => some t
  | .negSucc _ => none
def ldcv (own idx : Nat) : Option AV := match lk2 strL own idx with
  | some k => some (.inr (.inr (40, some k)))
  | none => none
def ldjv (own idx : Nat) : Option AV := match lk2 cjL own idx with
  | some k => some (.inr (.inl k))
  | none => none
def gstv (own idx : Nat) : Option AV := match lk2 [(10, 201, (.inr (.inr (42, some 0)) : AV)), (12, 89, .inr (.inr (42, some 1))), (12, 97, .inr (.inr (42, some 2))), (40, 38, .inl 1)] own idx with
  | some v => some v
  | none => none
/-- the steps that look at no heap and ask nothing -/
def step1 (own : Nat) (i : Instr) (pc : Nat) (ls st : List AV) : Option (Nat × List AV × List AV) := match i with
  | .aconst_null => some (pc + 1, ls, nul :: st)
  | .iconst n => some (pc + 1, ls, .inl (Int32.ofInt n) :: st)
  | .bipush n => some (pc + 2, ls, .inl (Int8.ofInt n).toInt32 :: st)
  | .sipush n => some (pc + 3, ls, .inl (Int16.ofInt n).toInt32 :: st)
  | .lconst n => some (pc + 1, ls, .inr (.inl (Int64.ofNat (n : Nat))) :: st)
  | .ldc k => push pc 2 ls (ldcv own k) st
  | .ldc2_w k => push pc 3 ls (ldjv own k) st
  | .getstatic k => push pc 3 ls (gstv own k) st
  | .iload k => push pc 2 ls (ldI ls k) st
  | .iload_n k => push pc 1 ls (ldI ls k.val) st
  | .lload k => push pc 2 ls (ldJ ls k) st
  | .lload_n k => push pc 1 ls (ldJ ls k.val) st
  | .aload k => push pc 2 ls (ldA ls k) st
  | .aload_n k => push pc 1 ls (ldA ls k.val) st
  | .istore k => toI ls k st 2 pc
  | .istore_n k => toI ls k.val st 1 pc
  | .lstore k => toJ ls k st 2 pc
  | .lstore_n k => toJ ls k.val st 1 pc
  | .astore k => toA ls k st 2 pc
  | .astore_n k => toA ls k.val st 1 pc
  | .iinc k n => match gt ls k with
    | some (.inl x) => (st1 ls k (.inl (x + Int32.ofInt n))).map (fun l => (pc + 3, l, st))
    | _ => none
  | .iadd => bI (fun x y => x + y) pc ls st
  | .isub => bI (fun x y => x - y) pc ls st
  | .imul => bI (fun x y => x * y) pc ls st
  | .iand => bI (fun x y => x &&& y) pc ls st
  | .ior => bI (fun x y => x ||| y) pc ls st
  | .ishr => bI (fun x y => x >>> (y &&& 31)) pc ls st
  | .iushr => bI (fun x y => (x.toUInt32 >>> (y.toUInt32 &&& Int32.toUInt32 31)).toInt32) pc ls st
  | .ineg => uI (fun x => -x) pc ls st
  | .i2b => uI (fun x => x.toInt8.toInt32) pc ls st
  | .i2c => uI (fun x => (x.toUInt32 % 65536).toInt32) pc ls st
  | .land => bJ (fun x y => x &&& y) pc ls st
  | .lor => bJ (fun x y => x ||| y) pc ls st
  | .lshl => shJ (fun x y => x <<< (y.toInt64 &&& 63)) pc ls st
  | .lshr => shJ (fun x y => x >>> (y.toInt64 &&& 63)) pc ls st
  | .lcmp => match st with
    | .inr (.inl y) :: .inr (.inl x) :: r => some (pc + 1, ls, .inl (lg_cmp x y) :: r)
    | _ => none
  | .i2l => match st with
    | .inl x :: r => some (pc + 1, ls, .inr (.inl x.toInt64) :: r)
    | _ => none
  | .l2i => match st with
    | .inr (.inl x) :: r => some (pc + 1, ls, .inl x.toInt32 :: r)
    | _ => none
  | .dup => match st with
    | .inl x :: r => some (pc + 1, ls, .inl x :: .inl x :: r)
    | .inr (.inr x) :: r => some (pc + 1, ls, .inr (.inr x) :: .inr (.inr x) :: r)
    | _ => none
  | .dup2 => match st with
    | .inl x :: .inr (.inr y) :: r => some (pc + 1, ls, .inl x :: .inr (.inr y) :: .inl x :: .inr (.inr y) :: r)
    | _ => none
  | .pop => match st with
    | .inl _ :: r => some (pc + 1, ls, r)
    | .inr (.inr _) :: r => some (pc + 1, ls, r)
    | _ => none
  | .goto off => (jto pc off).map (fun t => (t, ls, st))
  | _ => none
/-- branches: the condition, where it leads, where not, the stack behind it -/
def br1 (i : Instr) (pc : Nat) (st : List AV) : Option (Prop × Nat × List AV) := match i with
  | .ifCond c off => match st with
    | .inl x :: r => (jto pc off).map (fun t => ((match c with
      | .eq => x = 0
      | .ne => ¬ x = 0
      | .lt => x < 0
      | .ge => 0 ≤ x
      | .gt => 0 < x
      | .le => x ≤ 0), t, r))
    | _ => none
  | .if_icmp c off => match st with
    | .inl y :: .inl x :: r => (jto pc off).map (fun t => ((match c with
      | .eq => x = y
      | .ne => ¬ x = y
      | .lt => x < y
      | .ge => y ≤ x
      | .gt => y < x
      | .le => x ≤ y), t, r))
    | _ => none
  | .if_acmp c off => match st with
    | .inr (.inr (t1, o1)) :: .inr (.inr (t2, o2)) :: r => match Nat.beq t1 t2 && Nat.blt t1 12 with
      | true => (jto pc off).map (fun t => ((match c with
        | .eq => o2 = o1
        | .ne => ¬ o2 = o1), t, r))
      | false => none
    | _ => none
  | .ifnull off => match st with
    | .inr (.inr (_, o)) :: r => (jto pc off).map (fun t => (o = none, t, r))
    | _ => none
  | .ifnonnull off => match st with
    | .inr (.inr (_, o)) :: r => (jto pc off).map (fun t => (¬ o = none, t, r))
    | _ => none
  | _ => none
