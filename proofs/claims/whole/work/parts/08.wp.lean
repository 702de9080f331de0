/-! ONE STEP as a predicate transformer, all steps, calls -/
def dr (o : Option Nat) (K : Nat → Prop) : Prop := match o with
  | some a => K a
  | none => False
theorem dr_of {o : Option Nat} {a : Nat} {K : Nat → Prop} (h : o = some a) (k : K a) : dr o K := by rw [h]; exact k
theorem dr_ex {o : Option Nat} {K : Nat → Prop} (h : dr o K) : ∃ a, o = some a ∧ K a := by
  cases o with
  | none => exact h.elim
  | some a => exact ⟨a, rfl, h⟩
/-- the regions agree -/
def rg (t1 t2 : Nat) (A : Prop) : Prop := match Nat.beq t1 t2 with
  | true => A
  | false => False
theorem rg_ex {t1 t2 : Nat} {A : Prop} (h : rg t1 t2 A) : t1 = t2 ∧ A := by
  unfold rg at h
  cases hb : Nat.beq t1 t2 with
  | true => rw [hb] at h; exact ⟨Nat.eq_of_beq_eq_true hb, h⟩
  | false => rw [hb] at h; exact h.elim
/-- what a field holds -/
def gf (h : Hp) (t a k : Nat) : AV := match fk t k with
  | 0 => .inl (jI h t a k)
  | 1 => .inr (.inl (jL h t a k))
  | 2 => .inl (jI h t a k)
  | 3 => .inl 0
  | 4 => .inl 0
  | n + 5 => .inr (.inr (n, jR h t a k))
/-- String's own fields: value, coder -/
def gfs (a k : Nat) : AV := match k with
  | 0 => .inr (.inr (41, some a))
  | _ => .inl 0
def gfa (h : Hp) (t a k : Nat) : AV := match Nat.beq t 40 with
  | true => gfs a k
  | false => gf h t a k
/-- a value is put into a field -/
def pf (h : Hp) (t a k : Nat) (v : AV) (K : Hp → Prop) : Prop := match fk t k, v with
  | 0, .inl x => K (wI h t a k x)
  | 1, .inr (.inl x) => K (wL h t a k x)
  | 2, .inl x => (x = 0 ∨ x = 1) ∧ K (wI h t a k x)
  | n + 5, .inr (.inr (t', o)) => match Nat.beq n t', o with
    | true, o => K (wR h t a k o)
    | false, none => K (wR h t a k none)
    | false, some _ => False
  | _, _ => False
def romI (a : Nat) : List Int32 := match a with
  | 0 => [-1, 0, 0, 2, 2, 2, 2, 1, 1, 1, 1, 1, 1, 1, 1, 1, 3, 3, 3, 4, 4, 5, 5, 5, 6, 6, 6, 6, 6, 6, 6]
  | 1 => [0, -20, 20, -20, 20, 0, -20, 20, -20, 20, -20, 20, -20, 20, 0, -24, 0, 24, -14, 14, 0]
  | _ => [0, 0, 0, -30, -30, 20, -30, -30, 20, 20, -30, -30, 20, 20, -5, -30, -30, -30, 0, 0, 30]
def romB (a : Nat) : List Int32 := txbL.getD a []
/-- loads of ints out of rows: region 21 ints, 22 bytes, 23 chars, 24 booleans, 41 a String's bytes, 42 constant ints -/
def lda (h : Hp) (t a : Nat) (i : Int32) (K : AV → Prop) : Prop := match t with
  | 21 => vp_in i (jLen h 21 a) ∧ K (.inl (jI h 21 a (ix i)))
  | 22 => vp_in i (jLen h 22 a) ∧ K (.inl (jI h 22 a (ix i)))
  | 23 => vp_in i (jLen h 23 a) ∧ K (.inl (jI h 23 a (ix i)))
  | 24 => vp_in i (jLen h 24 a) ∧ K (.inl (jI h 24 a (ix i)))
  | 41 => vp_in i (romB a).length ∧ K (.inl ((romB a).getD (ix i) 0))
  | 42 => vp_in i (romI a).length ∧ K (.inl ((romI a).getD (ix i) 0))
  | _ => False
def sta (h : Hp) (t a : Nat) (i x : Int32) (K : Hp → Prop) : Prop := match t with
  | 21 => vp_in i (jLen h 21 a) ∧ K (wI h 21 a (ix i) x)
  | 22 => vp_in i (jLen h 22 a) ∧ K (wI h 22 a (ix i) (vp_nar .byte x))
  | 23 => vp_in i (jLen h 23 a) ∧ K (wI h 23 a (ix i) (vp_nar .char x))
  | 24 => vp_in i (jLen h 24 a) ∧ K (wI h 24 a (ix i) (vp_nar .boolean x))
  | _ => False
def alen (h : Hp) (t a : Nat) : Option Nat := match t with
  | 41 => some (romB a).length
  | 42 => some (romI a).length
  | t => match Nat.blt 20 t, Nat.blt t 25 with
    | true, true => some (jLen h t a)
    | _, _ => none
/-- which load or store goes with which region -/
def okA (i : Instr) (t : Nat) : Bool := match i with
  | .iaload => Nat.beq t 21 || Nat.beq t 42
  | .baload => Nat.beq t 22 || Nat.beq t 24 || Nat.beq t 41
  | .caload => Nat.beq t 23
  | .iastore => Nat.beq t 21
  | .bastore => Nat.beq t 22 || Nat.beq t 24
  | .castore => Nat.beq t 23
  | _ => false
def if' (b : Bool) (A : Prop) : Prop := match b with
  | true => A
  | false => False
def ald (i : Instr) (h : Hp) (st : List AV) (K : List AV → Prop) : Prop := match st with
  | .inl j :: .inr (.inr (t, o)) :: r => if' (okA i t) (dr o fun a => lda h t a j fun v => K (v :: r))
  | _ => False
def ast (i : Instr) (h : Hp) (st : List AV) (K : List AV → Hp → Prop) : Prop := match st with
  | .inl x :: .inl j :: .inr (.inr (t, o)) :: r => if' (okA i t) (dr o fun a => sta h t a j x fun h' => K r h')
  | _ => False
def wt : List AV → Nat
  | [] => 0
  | .inr (.inl _) :: r => wt r + 2
  | _ :: r => wt r + 1
def cons? (v : Option AV) (st : List AV) : List AV := match v with
  | some v => v :: st
  | none => st
def atyp (a : ArrayType) : Nat := match a with
  | .int => 21
  | .byte => 22
  | .char => 23
  | .boolean => 24
  | _ => 0
/-- a table of jumps, as pairs -/
def prs : Int → List Int → List (Int × Int)
  | _, [] => []
  | lo, o :: os => (lo, o) :: prs (lo + 1) os
def swl (x : Int32) (pc : Nat) (P : Nat → Prop) (d : Int) : List (Int × Int) → Prop
  | [] => match jto pc d with
    | some t => P t
    | none => False
  | (k, o) :: os => (x = Int32.ofInt k → match jto pc o with
    | some t => P t
    | none => False) ∧ (¬ x = Int32.ofInt k → swl x pc P d os)
def ab1 (x : Int32) : Int32 := if 0 ≤ x then x else 0 - x
def mn2 (x y : Int32) : Int32 := if y < x then y else x
def mx2 (x y : Int32) : Int32 := if x < y then y else x
abbrev CT : Type := Nat → List AV → Hp → (Option AV → Hp → Prop) → Prop
/-- the steps that look at the heap, call, answer -/
def FH (C : CT) (y : Nat) (Q : Option AV → Hp → Prop) (P : Nat → List AV → List AV → Hp → Prop) (pc : Nat) (ls st : List AV) (h : Hp) (i : Instr) : Prop := match i with
  | .idiv => match st with
    | .inl b :: .inl a :: r => ¬ b = 0 ∧ P (pc + 1) ls (.inl (a / b) :: r) h
    | _ => False
  | .irem => match st with
    | .inl b :: .inl a :: r => ¬ b = 0 ∧ P (pc + 1) ls (.inl (a - a / b * b) :: r) h
    | _ => False
  | .tableswitch d lo hi os => match st with
    | .inl x :: r => swl x pc (fun t => P t ls r h) d (prs lo os.toList)
    | _ => False
  | .lookupswitch d os => match st with
    | .inl x :: r => swl x pc (fun t => P t ls r h) d os.toList
    | _ => False
  | .getfield idx => match fld (mOw y) idx, st with
    | some (ci, k, _), .inr (.inr (t, o)) :: r => rg t ci (dr o fun a => P (pc + 3) ls (gfa h ci a k :: r) h)
    | _, _ => False
  | .putfield idx => match fld (mOw y) idx, st with
    | some (ci, k, _), v :: .inr (.inr (t, o)) :: r => rg t ci (dr o fun a => pf h ci a k v fun h' => P (pc + 3) ls r h')
    | _, _ => False
  | .iaload => ald .iaload h st fun st' => P (pc + 1) ls st' h
  | .baload => ald .baload h st fun st' => P (pc + 1) ls st' h
  | .caload => ald .caload h st fun st' => P (pc + 1) ls st' h
  | .iastore => ast .iastore h st fun st' h' => P (pc + 1) ls st' h'
  | .bastore => ast .bastore h st fun st' h' => P (pc + 1) ls st' h'
  | .castore => ast .castore h st fun st' h' => P (pc + 1) ls st' h'
  | .aaload => match st with
    | .inl j :: .inr (.inr (t, o)) :: r => if' (Nat.ble 30 t && Nat.blt t 40) (dr o fun a => vp_in j (jLen h t a) ∧ P (pc + 1) ls (.inr (.inr (t - 30, jR h t a (ix j))) :: r) h)
    | _ => False
  | .aastore => match st with
    | .inr (.inr (t', o')) :: .inl j :: .inr (.inr (t, o)) :: r => if' (Nat.ble 30 t && Nat.blt t 40 && Nat.beq t' (t - 30)) (dr o fun a => vp_in j (jLen h t a) ∧ P (pc + 1) ls r (wR h t a (ix j) o'))
    | _ => False
  | .arraylength => match st with
    | .inr (.inr (t, o)) :: r => dr o fun a => match alen h t a with
      | some n => P (pc + 1) ls (.inl (Int32.ofNat n) :: r) h
      | none => False
    | _ => False
  | .newarray a => match st with
    | .inl n :: r => if' (Nat.blt 0 (atyp a)) (¬ n < 0 ∧ ix n ≤ 100000 ∧ P (pc + 2) ls (.inr (.inr (atyp a, some (jN h (atyp a)))) :: r) (mk h (atyp a) (ix n) (ix n)))
    | _ => False
  | .anewarray idx => match clk (mOw y) idx, st with
    | some e, .inl n :: r => if' (Nat.beq e 1 || Nat.beq e 3 || Nat.beq e 5 || Nat.beq e 7) (¬ n < 0 ∧ ix n ≤ 100000 ∧ P (pc + 3) ls (.inr (.inr (30 + e, some (jN h (30 + e)))) :: r) (mk h (30 + e) (ix n) (ix n)))
    | _, _ => False
  | .new idx => match clk (mOw y) idx with
    | some t => if' (Nat.blt t 12) (P (pc + 3) ls (.inr (.inr (t, some (jN h t))) :: st) (mk h t 0 (nfl t)))
    | none => False
  | .invokestatic idx => match mth (mOw y) idx with
    | some (9998, _) => match st with
      | .inl n :: .inl j :: r => if' (Nat.ble (wt r) 8) ((¬ j < 0 ∧ j < n) ∧ P (pc + 3) ls r h)
      | _ => False
    | some (9997, _) => match st with
      | .inl b :: .inl a :: r => if' (Nat.ble (wt r) 8) (P (pc + 3) ls (.inl (mn2 a b) :: r) h)
      | _ => False
    | some (9996, _) => match st with
      | .inl b :: .inl a :: r => if' (Nat.ble (wt r) 8) (P (pc + 3) ls (.inl (mx2 a b) :: r) h)
      | _ => False
    | some (9995, _) => match st with
      | .inl a :: r => if' (Nat.ble (wt r) 8) (P (pc + 3) ls (.inl (ab1 a) :: r) h)
      | _ => False
    | some (y', _) => if' (Nat.blt y' 239 && Nat.beq (mKi y') 0 && Nat.ble (mPa y') st.length && Nat.ble (wt (st.drop (mPa y'))) 8 && Nat.ble (wt (st.take (mPa y'))) (mLo y')) (C y' (st.take (mPa y')).reverse h fun v h' => P (pc + 3) ls (cons? v (st.drop (mPa y'))) h')
    | none => False
  | .invokevirtual idx => match mth (mOw y) idx with
    | some (y', ns) => match st.drop (mPa y') with
      | .inr (.inr (t, o)) :: r => if' (Nat.blt y' 239 && Nat.beq (mKi y') 1 && Nat.beq ns 0 && Nat.ble (wt r) 8 && Nat.ble (1 + wt (st.take (mPa y'))) (mLo y')) (rg t (mOw y') (dr o fun a => C y' (.inr (.inr (t, some a)) :: (st.take (mPa y')).reverse) h fun v h' => P (pc + 3) ls (cons? v r) h'))
      | _ => False
    | none => False
  | .invokespecial idx => match mth (mOw y) idx with
    | some (9999, _) => match st with
      | .inr (.inr (_, o)) :: r => if' (Nat.ble (wt r) 8) (dr o fun _ => P (pc + 3) ls r h)
      | _ => False
    | some (y', _) => match st.drop (mPa y') with
      | .inr (.inr (t, o)) :: r => if' (Nat.blt y' 239 && Nat.beq (mKi y') 2 && Nat.ble (wt r) 8 && Nat.ble (1 + wt (st.take (mPa y'))) (mLo y')) (rg t (mOw y') (dr o fun a => C y' (.inr (.inr (t, some a)) :: (st.take (mPa y')).reverse) h fun v h' => P (pc + 3) ls (cons? v r) h'))
      | _ => False
    | none => False
  | .ireturn => match st with
    | [.inl x] => match mRc y with
      | 1 => Q (some (.inl x)) h
      | 2 => dr2 (mRt y) (fun ty => narrow ty (.int x) = .int x) ∧ Q (some (.inl x)) h
      | _ => False
    | _ => False
  | .lreturn => match st with
    | [.inr (.inl x)] => match mRc y with
      | 3 => Q (some (.inr (.inl x))) h
      | _ => False
    | _ => False
  | .areturn => match st with
    | [.inr (.inr (t, o))] => match mRc y with
      | n + 5 => match Nat.beq t n, o with
        | true, o => Q (some (.inr (.inr (n, o)))) h
        | false, none => Q (some (.inr (.inr (n, none)))) h
        | false, some _ => False
      | _ => False
    | _ => False
  | .return_ => match st with
    | [] => match mRc y with
      | 0 => Q none h
      | _ => False
    | _ => False
  | _ => False
where dr2 {α : Type} (o : Option α) (K : α → Prop) : Prop := match o with
  | some a => K a
  | none => False
def FI (C : CT) (y : Nat) (Q : Option AV → Hp → Prop) (P : Nat → List AV → List AV → Hp → Prop) (pc : Nat) (ls st : List AV) (h : Hp) (i : Instr) : Prop := match step1 (mOw y) i pc ls st with
  | some q => P q.1 q.2.1 q.2.2 h
  | none => match br1 i pc st with
    | some q => (q.1 → P q.2.1 ls q.2.2 h) ∧ (¬ q.1 → P (pc + 3) ls q.2.2 h)
    | none => FH C y Q P pc ls st h i
def FS (C : CT) (y : Nat) (Q : Option AV → Hp → Prop) (P : Nat → List AV → List AV → Hp → Prop) (pc : Nat) (ls st : List AV) (h : Hp) : Prop := match lk (mCo y) pc with
  | some i => FI C y Q P pc ls st h i
  | none => False
def Wp (C : CT) (y : Nat) (Q : Option AV → Hp → Prop) (pc : Nat) (ls st : List AV) (h : Hp) : Prop := ∀ P : Nat → List AV → List AV → Hp → Prop, (∀ pc ls st h, FS C y Q P pc ls st h → P pc ls st h) → P pc ls st h
def entL : List AV → List AV
  | [] => []
  | .inr (.inl x) :: r => .inr (.inl x) :: un :: entL r
  | v :: r => v :: entL r
def entLs (as : List AV) (n : Nat) : List AV := entL as ++ List.replicate (n - (entL as).length) un
def Call : Nat → CT
  | 0, _, _, _, _ => False
  | d + 1, y, as, h, Q => Wp (Call d) y Q 0 (entLs as (mLo y)) [] h
