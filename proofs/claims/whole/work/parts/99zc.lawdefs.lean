/-! the law: what its claim is made of (the skeleton's rows), and the reading of its code -/
def R_law : String := "HeraldDeskLaw"
def lw_P (b : Addr) (xs : List Int32) (args : Array Value) (s : State) : Prop := args = #[.ref b] ∧ s.IntsAt b xs ∧ xs.length ≤ 3072 ∧ (Jvm.Cond.and given_1 narrow_1).before args s = true
def lw_Q (_ : Array Value) (s : State) (o : Outcome) (t : State) : Prop := o = .returned (some (.int 1)) ∧ Framed s o t [] 600000 7302250
def lw_Z (below : List Frame) (a : Array Value) (s : State) : State → Prop := fun t => ∃ o, t.status = .running ∧ Ended t below o ∧ lw_Q a s o t
/-- the law's own end, with 1 on the stack, nothing written that was there before, its room as the claim has it -/
theorem lw_ret {p : Program} {l : Launch} {e : Env} {s : State} {m : MethodId} {below : List Frame} {meth : Method} {c : Code} {b : Nat} (hx : p.tables.exec = Jvm.exec) (hb : c.code = code) (hr : meth.sig.returnType = ret) (hlocks : meth.locks = false) {pc : Nat} {H : Heap} {ls : Array Slot} (hdg : decode code pc = .ok (.ireturn, 1)) : W p l e room_1 s m #[Value.ref b] below meth c H [] 600000 7302250 (lw_Z below #[Value.ref b] s) (F0 m pc ls [.int 1]) := by
  intro T hT X
  obtain ⟨fs, hret, hrun, hended, hW, hframe⟩ := X.leave (v := some (.int 1)) (hlocks := hlocks) (fun h => by rw [hr] at h; cases h)
  have hmeth' : T.vm.method? m = some meth := X.method'
  refine ⟨T.setFrames fs, ?_, .returned (some (.int 1)), hrun, hended, rfl, ⟨_, rfl⟩, hW, hframe⟩
  jvm_step X.here [X.here.top, hx, hb, hdg, hmeth', hr, ret, narrow_b1]
  (try refine ⟨rfl, ?_⟩); (try refine ⟨rfl, ?_⟩)
  first | (intro acts; rw [hret _ acts rfl rfl rfl]) | rw [hret _ _ rfl rfl rfl]
  exact Steps.refl _
/-- what holds at the law's entry: the machine, the code, the tables' words (any of lw_tbl by 'hts w (by decide +kernel)'), the script of L ints xs at the cell b, what the Statement gives of the start (any of its parts by flat_of_before) -/
def lw_At (p : Program) (s : State) (m : MethodId) (meth : Method) (c : Code) (b L : Nat) (xs : Nat → Int32) : Prop :=
  p.tables.exec = Jvm.exec ∧ c.code = code ∧ meth.sig.returnType = ret ∧ c.maxLocals = 4 ∧ s.vm.findClass R_law = some m.cls ∧ (∀ w ∈ lw_tbl, w.before #[Value.ref b] s = true) ∧ va_X b L xs s s.heap ∧ b < s.heap.size ∧ meth.locks = false ∧ (Jvm.Cond.and given_1 narrow_1).before #[Value.ref b] s = true
def dkL (pc : Nat) (i : Instr) (n : Nat) : Bool := match decode code pc with
  | .ok (i', n') => decide (i' = i) && Nat.beq n' n
  | _ => false
theorem dkL_ok {pc n : Nat} {i : Instr} (h : dkL pc i n = true) : decode code pc = .ok (i, n) := by
  unfold dkL at h
  split at h
  · rename_i i' n' hd
    simp only [Bool.and_eq_true, decide_eq_true_eq] at h
    rw [hd, h.1, Nat.eq_of_beq_eq_true h.2]
  · cases h
def ckArg (pc k : Nat) : Bool := dkL pc (.aload_n 0) 1 && dkL (pc + 1) (.iload_n 3) 1 && dkL (pc + 2) (.iconst (Int.ofNat k)) 1 && dkL (pc + 3) .iadd 1 && dkL (pc + 4) .iaload 1
def ckArgs (pc k : Nat) : Nat → Bool
  | 0 => true
  | n + 1 => ckArgs pc k n && ckArg (pc + 5 * n) (k + n + 1)
def ckCase (pc n idx1 idx2 : Nat) : Bool := dkL pc (.aload_n 1) 1 && ckArgs (pc + 1) 0 n && dkL (pc + 1 + 5 * n) (.invokevirtual idx1) 3 && dkL (pc + 4 + 5 * n) (.aload_n 2) 1 && ckArgs (pc + 5 + 5 * n) 0 n && dkL (pc + 5 + 10 * n) (.invokevirtual idx2) 3 && dkL (pc + 8 + 10 * n) (.if_icmp .eq (733 - Int.ofNat (pc + 8 + 10 * n))) 3
theorem k_feed : ckCase 116 5 13 17 = true := by decide +kernel
theorem k_read : ckCase 179 1 18 22 = true := by decide +kernel
theorem k_pack : ckCase 202 2 23 27 = true := by decide +kernel
theorem k_write : ckCase 235 1 28 31 = true := by decide +kernel
theorem k_octet : ckCase 258 1 32 35 = true := by decide +kernel
theorem k_look : ckCase 281 2 36 39 = true := by decide +kernel
theorem k_judge : ckCase 314 3 40 44 = true := by decide +kernel
theorem k_part : ckCase 357 4 45 49 = true := by decide +kernel
theorem k_chosen : ckCase 410 3 50 53 = true := by decide +kernel
theorem k_ran : ckCase 453 0 54 58 = true := by decide +kernel
theorem k_point : ckCase 466 3 59 62 = true := by decide +kernel
theorem k_points : ckCase 509 2 63 66 = true := by decide +kernel
theorem k_differ : ckCase 542 2 67 70 = true := by decide +kernel
theorem k_marry : ckCase 644 2 76 80 = true := by decide +kernel
theorem k_family : ckCase 677 2 81 84 = true := by decide +kernel
theorem k_count : ckCase 710 1 85 88 = true := by decide +kernel
def ckBool (pc : Nat) : Bool := ckArg pc 1 && dkL (pc + 5) (.ifCond .eq 7) 3 && dkL (pc + 8) (.iconst 1) 1 && dkL (pc + 9) (.goto 4) 3 && dkL (pc + 12) (.iconst 0) 1
theorem k_person : dkL 575 (.aload_n 1) 1 = true ∧ ckBool 576 = true ∧ ckArgs 589 1 3 = true ∧ dkL 604 (.invokevirtual 71) 3 = true ∧ dkL 607 (.aload_n 2) 1 = true ∧ ckBool 608 = true ∧ ckArgs 621 1 3 = true ∧ dkL 636 (.invokevirtual 75) 3 = true ∧ dkL 639 (.if_icmp .eq 94) 3 = true := by decide +kernel
theorem k_head : dkL 0 (.new 7) 3 = true ∧ dkL 3 .dup 1 = true ∧ dkL 4 (.invokespecial 9) 3 = true ∧ dkL 7 (.astore_n 1) 1 = true ∧ dkL 8 (.new 10) 3 = true ∧ dkL 11 .dup 1 = true ∧ dkL 12 (.invokespecial 12) 3 = true ∧ dkL 15 (.astore_n 2) 1 = true ∧ dkL 16 (.iconst 0) 1 = true ∧ dkL 17 (.istore_n 3) 1 = true := by decide +kernel
theorem k_loop : dkL 18 (.iload_n 3) 1 = true ∧ dkL 19 (.aload_n 0) 1 = true ∧ dkL 20 .arraylength 1 = true ∧ dkL 21 (.bipush 6) 2 = true ∧ dkL 23 .isub 1 = true ∧ dkL 24 (.if_icmp .gt 715) 3 = true ∧ dkL 27 (.aload_n 0) 1 = true ∧ dkL 28 (.iload_n 3) 1 = true ∧ dkL 29 .iaload 1 = true ∧ dkL 30 (.bipush 31) 2 = true ∧ dkL 32 .iand 1 = true ∧ dkL 33 (.tableswitch 700 0 16 #[83, 146, 169, 202, 225, 248, 281, 324, 377, 420, 433, 476, 509, 542, 611, 644, 677]) 83 = true ∧ dkL 733 (.iinc 3 6) 3 = true ∧ dkL 736 (.goto (-718)) 3 = true ∧ dkL 739 (.iconst 1) 1 = true ∧ dkL 740 .ireturn 1 = true := by decide +kernel
