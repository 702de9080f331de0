/-! THE STEPS ARE THE MACHINE'S: those that look at no heap -/
def Rom (φ : Nat → Nat → Nat) (A : Nat → Prop) (s : State) (H : Heap) : Prop :=
  (∀ i, i < 34 → va_O "java/lang/String" (φ 40 i) A s H ∧ va_OF "java/lang/String" "coder" "B" (.int 0) (φ 40 i) A s H ∧ va_OF "java/lang/String" "value" "[B" (.ref (φ 41 i)) (φ 40 i) A s H ∧ va_T .byte (φ 41 i) (romB i).length (fun j => .int ((romB i).getD j 0)) A s H) ∧
  (∀ own idx id, lk2 strL own idx = some id → vk_R (cnm own) idx (txtL.getD id "") (φ 40 id) s) ∧
  (∀ a, a < 3 → va_T .int (φ 42 a) (romI a).length (fun j => .int ((romI a).getD j 0)) A s H) ∧
  va_Z "HeraldDesk" "FAMILIES" "[I" (.ref (φ 42 0)) A s H ∧ va_Z "HeraldDesk$Painter" "FIELD_U" "[I" (.ref (φ 42 1)) A s H ∧ va_Z "HeraldDesk$Painter" "FIELD_V" "[I" (.ref (φ 42 2)) A s H ∧ va_Z "java/lang/String" "COMPACT_STRINGS" "Z" (.int 1) A s H ∧
  va_Zq "jdk/internal/util/Preconditions" "SIOOBE_FORMATTER" "Ljava/util/function/BiFunction;" A s H ∧
  (∀ w ∈ nestL, va_Nw w s) ∧ (∀ e ∈ [1, 3, 5, 7], va_AO (cnm e) s)
theorem nest_warm {w : Cond} (hw : isNest w = true) {s U : State} (hW : s.WarmedH U.vm) (h : va_Nw w s) : va_Nw w U := by
  cases w <;> first | exact va_Nw.warmF hW h | exact va_Nw.warmM hW h | cases hw
theorem Rom.to {φ : Nat → Nat → Nat} {A A' : Nat → Prop} {s U : State} {H : Heap} {locs : List Loc} (h : Rom φ A s s.heap) (hS : va_S A s.heap H locs) (hW : s.WarmedH U.vm) (hU : U.heap = H) (hA : ∀ q, A' q → A q) : Rom φ A' U U.heap := by
  obtain ⟨h1, h2, h3, h4, h5, h6, h7, h8, h9, h10⟩ := h
  have hv := hW.alike
  have hk : ∀ a : Nat, a < s.heap.size → ¬ A a → U.heap[a]? = s.heap[a]? := fun a x y => by rw [hU]; exact hS.2.1 a x y
  refine ⟨fun i hi => ?_, fun own idx id hl => (h2 own idx id hl).warm hW, fun a ha => (((h3 a ha).moved hv).kept hk).narrow hA, ((h4.moved hv).kept hk).narrow hA, ((h5.moved hv).kept hk).narrow hA, ((h6.moved hv).kept hk).narrow hA, ((h7.moved hv).kept hk).narrow hA, ((h8.moved hv).kept hk).narrow hA, fun w hw => nest_warm (List.all_eq_true.mp nest_is w hw) hW (h9 w hw), fun e he => (h10 e he).moved hv⟩
  obtain ⟨g1, g2, g3, g4⟩ := h1 i hi
  exact ⟨((g1.moved hv).kept hk).narrow hA, ((g2.moved hv).kept hk).narrow hA, ((g3.moved hv).kept hk).narrow hA, ((g4.moved hv).kept hk).narrow hA⟩
theorem push_ex {pc d : Nat} {ls st : List AV} {v : Option AV} {q : Nat × List AV × List AV} (h : push pc d ls v st = some q) : ∃ w, v = some w ∧ q = (pc + d, ls, w :: st) := by
  unfold push at h
  split at h
  · exact ⟨_, rfl, (Option.some.inj h).symm⟩
  · cases h
theorem ldI_ex {ls : List AV} {k : Nat} {v : AV} (h : ldI ls k = some v) : ∃ x, v = .inl x ∧ gt ls k = some (.inl x) := by
  unfold ldI at h
  split at h
  · rename_i x hx
    exact ⟨x, (Option.some.inj h).symm, hx⟩
  · cases h
theorem ldJ_ex {ls : List AV} {k : Nat} {v : AV} (h : ldJ ls k = some v) : ∃ x, v = .inr (.inl x) ∧ gt ls k = some (.inr (.inl x)) := by
  unfold ldJ at h
  split at h
  · rename_i x hx
    exact ⟨x, (Option.some.inj h).symm, hx⟩
  · cases h
theorem ldA_ex {ls : List AV} {k : Nat} {v : AV} (h : ldA ls k = some v) : ∃ t o, v = .inr (.inr (t, o)) ∧ gt ls k = some (.inr (.inr (t, o))) ∧ isUn (.inr (.inr (t, o))) = false := by
  unfold ldA at h
  split at h
  · rename_i t o hx
    split at h
    · cases h
    · rename_i hb
      exact ⟨t, o, (Option.some.inj h).symm, hx, hb⟩
  · cases h
theorem st1_lt {ls ls' : List AV} {i : Nat} {v : AV} (h1 : st1 ls i v = some ls') : i < ls.length ∧ ls' = stt ls i v := by
  unfold st1 at h1
  split at h1
  · cases h1
  · rename_i w hw
    split at h1
    · cases h1; exact ⟨gt_some hw, rfl⟩
    · split at h1
      · cases h1
      · cases h1; exact ⟨gt_some hw, rfl⟩
theorem st2_lt {ls ls' : List AV} {i : Nat} {v : AV} (h1 : st2 ls i v = some ls') : i + 1 < ls.length ∧ ls' = stt (stt ls i v) (i + 1) un := by
  unfold st2 at h1
  split at h1
  · cases h1
  · rename_i w hw
    split at h1
    · cases h1; exact ⟨gt_some hw, rfl⟩
    · split at h1
      · cases h1
      · cases h1; exact ⟨gt_some hw, rfl⟩
theorem toI_ex {ls : List AV} {k : Nat} {st : List AV} {d pc : Nat} {q : Nat × List AV × List AV} (h : toI ls k st d pc = some q) : ∃ x r l', st = .inl x :: r ∧ st1 ls k (.inl x) = some l' ∧ q = (pc + d, l', r) := by
  unfold toI at h
  split at h
  · rename_i x r
    obtain ⟨l', h1, h2⟩ := Option.map_eq_some_iff.mp h
    exact ⟨x, r, l', rfl, h1, h2.symm⟩
  · cases h
theorem toJ_ex {ls : List AV} {k : Nat} {st : List AV} {d pc : Nat} {q : Nat × List AV × List AV} (h : toJ ls k st d pc = some q) : ∃ x r l', st = .inr (.inl x) :: r ∧ st2 ls k (.inr (.inl x)) = some l' ∧ q = (pc + d, l', r) := by
  unfold toJ at h
  split at h
  · rename_i x r
    obtain ⟨l', h1, h2⟩ := Option.map_eq_some_iff.mp h
    exact ⟨x, r, l', rfl, h1, h2.symm⟩
  · cases h
theorem toA_ex {ls : List AV} {k : Nat} {st : List AV} {d pc : Nat} {q : Nat × List AV × List AV} (h : toA ls k st d pc = some q) : ∃ t o r l', st = .inr (.inr (t, o)) :: r ∧ st1 ls k (.inr (.inr (t, o))) = some l' ∧ q = (pc + d, l', r) := by
  unfold toA at h
  split at h
  · rename_i t o r
    obtain ⟨l', h1, h2⟩ := Option.map_eq_some_iff.mp h
    exact ⟨t, o, r, l', rfl, h1, h2.symm⟩
  · cases h
theorem bI_ex {f : Int32 → Int32 → Int32} {pc : Nat} {ls st : List AV} {q : Nat × List AV × List AV} (h : bI f pc ls st = some q) : ∃ x y r, st = .inl y :: .inl x :: r ∧ q = (pc + 1, ls, .inl (f x y) :: r) := by
  unfold bI at h
  split at h
  · exact ⟨_, _, _, rfl, (Option.some.inj h).symm⟩
  · cases h
theorem bJ_ex {f : Int64 → Int64 → Int64} {pc : Nat} {ls st : List AV} {q : Nat × List AV × List AV} (h : bJ f pc ls st = some q) : ∃ x y r, st = .inr (.inl y) :: .inr (.inl x) :: r ∧ q = (pc + 1, ls, .inr (.inl (f x y)) :: r) := by
  unfold bJ at h
  split at h
  · exact ⟨_, _, _, rfl, (Option.some.inj h).symm⟩
  · cases h
theorem uI_ex {f : Int32 → Int32} {pc : Nat} {ls st : List AV} {q : Nat × List AV × List AV} (h : uI f pc ls st = some q) : ∃ x r, st = .inl x :: r ∧ q = (pc + 1, ls, .inl (f x) :: r) := by
  unfold uI at h
  split at h
  · exact ⟨_, _, rfl, (Option.some.inj h).symm⟩
  · cases h
theorem shJ_ex {f : Int64 → Int32 → Int64} {pc : Nat} {ls st : List AV} {q : Nat × List AV × List AV} (h : shJ f pc ls st = some q) : ∃ x y r, st = .inl y :: .inr (.inl x) :: r ∧ q = (pc + 1, ls, .inr (.inl (f x y)) :: r) := by
  unfold shJ at h
  split at h
  · exact ⟨_, _, _, rfl, (Option.some.inj h).symm⟩
  · cases h
theorem jto_ex {pc : Nat} {off : Int} {t : Nat} (h : jto pc off = some t) : (pc : Int) + off = (t : Int) := by
  unfold jto at h
  split at h
  · rename_i u hu
    rw [hu]
    cases h
    rfl
  · cases h
theorem ldcv_ex {own idx : Nat} {v : AV} (h : ldcv own idx = some v) : ∃ id, lk2 strL own idx = some id ∧ v = .inr (.inr (40, some id)) := by
  unfold ldcv at h
  split at h
  · rename_i k hk
    exact ⟨k, hk, (Option.some.inj h).symm⟩
  · cases h
theorem ldjv_ex {own idx : Nat} {v : AV} (h : ldjv own idx = some v) : ∃ x, Cond.constantLong (cnm own) idx x ∈ lw_good ∧ v = .inr (.inl x) := by
  unfold ldjv at h
  split at h
  · rename_i k hk
    obtain ⟨j, hj⟩ := all_zip cj_ok cj_len _ (lk2_mem hk)
    exact ⟨k, wOK_mem hj, (Option.some.inj h).symm⟩
  · cases h
theorem gstv_ex {own idx : Nat} {v : AV} (h : gstv own idx = some v) : (own = 10 ∧ idx = 201 ∧ v = .inr (.inr (42, some 0))) ∨ (own = 12 ∧ idx = 89 ∧ v = .inr (.inr (42, some 1))) ∨ (own = 12 ∧ idx = 97 ∧ v = .inr (.inr (42, some 2))) ∨ (own = 40 ∧ idx = 38 ∧ v = .inl 1) := by
  unfold gstv at h
  split at h
  · rename_i w hw
    cases h
    have := lk2_mem hw
    simp only [List.mem_cons, Prod.mk.injEq, List.not_mem_nil, or_false] at this
    exact this
  · cases h
theorem rf_cat {o : Option Nat} : (va_rf o).category = 1 := by cases o <;> rfl
section SND
variable {p : Program} {l : Launch} {e : Env} {R : Room} {s : State} {m : MethodId} {args : Array Value} {below : List Frame} {meth : Method} {c : Code} {H : Heap} {locs : List Loc} {cells slots : Nat} {Qw : State → Prop}
variable {cc : ByteArray} {A : Nat → Prop} {φ : Nat → Nat → Nat} {nL : Nat} {L : Array Slot} {ls st : List AV} {own pc : Nat}
set_option maxHeartbeats 4000000 in
theorem snd1 (hx : p.tables.exec = Jvm.exec) (hb : c.code = cc) (hown : s.vm.findClass (cnm own) = some m.cls) (hts : ∀ w ∈ lw_good, w.before args s = true) (hS : va_S A s.heap H locs) (hrom : Rom φ A s s.heap) {i : Instr} (hdg : decode cc pc = .ok (i, ilen i)) {q : Nat × List AV × List AV} (h1 : step1 own i pc ls st = some q) (hl : lv_has L nL (prl φ 0 ls)) (hn : ls.length = nL)
    (kk : ∀ L', lv_has L' nL (prl φ 0 q.2.1) → q.2.1.length = nL → W p l e R s m args below meth c H locs cells slots Qw (F0 m q.1 L' (q.2.2.map (trv φ)))) : W p l e R s m args below meth c H locs cells slots Qw (F0 m pc L (st.map (trv φ))) := by
  cases i
  case aconst_null => cases h1; exact lv_null hx hb hdg (kk L hl hn)
  case iconst n => cases h1; exact lv_iconst hx hb hdg rfl (kk L hl hn)
  case bipush n => cases h1; exact lv_bipush hx hb hdg rfl (kk L hl hn)
  case sipush n => cases h1; exact lv_sipush hx hb hdg rfl (kk L hl hn)
  case lconst n => cases h1; exact lv_lconst hx hb hdg rfl (kk L hl hn)
  case ldc k =>
    obtain ⟨w, hw, rfl⟩ := push_ex h1
    obtain ⟨id, hi, rfl⟩ := ldcv_ex hw
    exact va_ldcS hx hb hown (hrom.2.1 own k id hi) hdg (kk L hl hn)
  case ldc2_w k =>
    obtain ⟨w, hw, rfl⟩ := push_ex h1
    obtain ⟨x, hm, rfl⟩ := ldjv_ex hw
    exact lv_ldc2 hx hb hown (hts _ hm) hdg (kk L hl hn)
  case getstatic k =>
    obtain ⟨w, hw, rfl⟩ := push_ex h1
    obtain ⟨-, -, -, z1, z2, z3, z4, -⟩ := hrom
    rcases gstv_ex hw with ⟨rfl, rfl, rfl⟩ | ⟨rfl, rfl, rfl⟩ | ⟨rfl, rfl, rfl⟩ | ⟨rfl, rfl, rfl⟩
    · exact va_gets hx hb z1 hS hown (hts _ gst_ok0) (fun _ h => h) hdg (kk L hl hn)
    · exact va_gets hx hb z2 hS hown (hts _ gst_ok1) (fun _ h => h) hdg (kk L hl hn)
    · exact va_gets hx hb z3 hS hown (hts _ gst_ok2) (fun _ h => h) hdg (kk L hl hn)
    · exact va_gets hx hb z4 hS hown (hts _ gst_ok3) (fun _ h => h) hdg (kk L hl hn)
  case iload k =>
    obtain ⟨w, hw, rfl⟩ := push_ex h1
    obtain ⟨x, rfl, hg⟩ := ldI_ex hw
    exact lv_iload hx hb hdg (lv_gt hl hg rfl) (kk L hl hn)
  case iload_n k =>
    obtain ⟨w, hw, rfl⟩ := push_ex h1
    obtain ⟨x, rfl, hg⟩ := ldI_ex hw
    exact lv_iload_n hx hb hdg rfl (lv_gt hl hg rfl) (kk L hl hn)
  case lload k =>
    obtain ⟨w, hw, rfl⟩ := push_ex h1
    obtain ⟨x, rfl, hg⟩ := ldJ_ex hw
    exact lv_lload hx hb hdg (lv_gt hl hg rfl) (kk L hl hn)
  case lload_n k =>
    obtain ⟨w, hw, rfl⟩ := push_ex h1
    obtain ⟨x, rfl, hg⟩ := ldJ_ex hw
    exact lv_lload_n hx hb hdg rfl (lv_gt hl hg rfl) (kk L hl hn)
  case aload k =>
    obtain ⟨w, hw, rfl⟩ := push_ex h1
    obtain ⟨t, o, rfl, hg, hu⟩ := ldA_ex hw
    cases o with
    | none => exact lv_aloadN hx hb hdg (lv_gt hl hg hu) (kk L hl hn)
    | some a => exact lv_aload hx hb hdg (lv_gt hl hg hu) (kk L hl hn)
  case aload_n k =>
    obtain ⟨w, hw, rfl⟩ := push_ex h1
    obtain ⟨t, o, rfl, hg, hu⟩ := ldA_ex hw
    cases o with
    | none => exact lv_aload_nN hx hb hdg rfl (lv_gt hl hg hu) (kk L hl hn)
    | some a => exact lv_aload_n hx hb hdg rfl (lv_gt hl hg hu) (kk L hl hn)
  case istore k =>
    obtain ⟨x, r, l', rfl, hs, rfl⟩ := toI_ex h1
    obtain ⟨hlt, e1⟩ := st1_lt hs
    exact lv_istore hx hb hdg hl (by omega) rfl (fun L' hl' => kk L' (lv_st1 (φ := φ) hs hl').1 (by rw [e1, stt_len]; exact hn))
  case istore_n k =>
    obtain ⟨x, r, l', rfl, hs, rfl⟩ := toI_ex h1
    obtain ⟨hlt, e1⟩ := st1_lt hs
    exact lv_istore_n hx hb hdg rfl hl (by omega) rfl (fun L' hl' => kk L' (lv_st1 (φ := φ) hs hl').1 (by rw [e1, stt_len]; exact hn))
  case lstore k =>
    obtain ⟨x, r, l', rfl, hs, rfl⟩ := toJ_ex h1
    obtain ⟨hlt, e1⟩ := st2_lt hs
    exact lv_lstore hx hb hdg hl (by omega) rfl (fun L' hl' => kk L' (lv_st2 (φ := φ) hs hl').1 (by rw [e1, stt_len, stt_len]; exact hn))
  case lstore_n k =>
    obtain ⟨x, r, l', rfl, hs, rfl⟩ := toJ_ex h1
    obtain ⟨hlt, e1⟩ := st2_lt hs
    exact lv_lstore_n hx hb hdg rfl hl (by omega) rfl (fun L' hl' => kk L' (lv_st2 (φ := φ) hs hl').1 (by rw [e1, stt_len, stt_len]; exact hn))
  case astore k =>
    obtain ⟨t, o, r, l', rfl, hs, rfl⟩ := toA_ex h1
    obtain ⟨hlt, e1⟩ := st1_lt hs
    cases o with
    | none => exact lv_astoreN hx hb hdg hl (by omega) rfl (fun L' hl' => kk L' (lv_st1 (φ := φ) hs hl').1 (by rw [e1, stt_len]; exact hn))
    | some a => exact lv_astore hx hb hdg hl (by omega) rfl (fun L' hl' => kk L' (lv_st1 (φ := φ) hs hl').1 (by rw [e1, stt_len]; exact hn))
  case astore_n k =>
    obtain ⟨t, o, r, l', rfl, hs, rfl⟩ := toA_ex h1
    obtain ⟨hlt, e1⟩ := st1_lt hs
    cases o with
    | none => exact lv_astore_nN hx hb hdg rfl hl (by omega) rfl (fun L' hl' => kk L' (lv_st1 (φ := φ) hs hl').1 (by rw [e1, stt_len]; exact hn))
    | some a => exact lv_astore_n hx hb hdg rfl hl (by omega) rfl (fun L' hl' => kk L' (lv_st1 (φ := φ) hs hl').1 (by rw [e1, stt_len]; exact hn))
  case iinc k n =>
    dsimp only [step1] at h1
    split at h1
    · rename_i x hg
      obtain ⟨l', hs, e2⟩ := Option.map_eq_some_iff.mp h1
      subst e2
      obtain ⟨hlt, e1⟩ := st1_lt hs
      obtain ⟨k0, hk0⟩ := List.mem_iff_getElem?.mp (mem_prl.mpr ⟨k, .inl x, hg, rfl, rfl⟩ : (0 + k, trv φ (.inl x)) ∈ prl φ 0 ls)
      rw [Nat.zero_add] at hk0
      exact lv_iinc (x := x) hx hb hdg hl hk0 rfl (by omega) rfl (fun L' hl' => kk L' (lv_st1 (φ := φ) hs hl').1 (by rw [e1, stt_len]; exact hn))
    · cases h1
  case iadd => obtain ⟨x, y, r, rfl, rfl⟩ := bI_ex h1; exact lv_iadd hx hb hdg (kk L hl hn)
  case isub => obtain ⟨x, y, r, rfl, rfl⟩ := bI_ex h1; exact lv_isub hx hb hdg (kk L hl hn)
  case imul => obtain ⟨x, y, r, rfl, rfl⟩ := bI_ex h1; exact lv_imul hx hb hdg (kk L hl hn)
  case iand => obtain ⟨x, y, r, rfl, rfl⟩ := bI_ex h1; exact lv_iand hx hb hdg (kk L hl hn)
  case ior => obtain ⟨x, y, r, rfl, rfl⟩ := bI_ex h1; exact lv_ior hx hb hdg (kk L hl hn)
  case ishr => obtain ⟨x, y, r, rfl, rfl⟩ := bI_ex h1; exact lv_ishr hx hb hdg (kk L hl hn)
  case iushr => obtain ⟨x, y, r, rfl, rfl⟩ := bI_ex h1; exact lv_iushr hx hb hdg rfl (kk L hl hn)
  case ineg => obtain ⟨x, r, rfl, rfl⟩ := uI_ex h1; exact lv_ineg hx hb hdg (kk L hl hn)
  case i2b => obtain ⟨x, r, rfl, rfl⟩ := uI_ex h1; exact lv_i2b hx hb hdg rfl (kk L hl hn)
  case i2c => obtain ⟨x, r, rfl, rfl⟩ := uI_ex h1; exact lv_i2c hx hb hdg rfl (kk L hl hn)
  case land => obtain ⟨x, y, r, rfl, rfl⟩ := bJ_ex h1; exact lv_land hx hb hdg (kk L hl hn)
  case lor => obtain ⟨x, y, r, rfl, rfl⟩ := bJ_ex h1; exact lv_lor hx hb hdg (kk L hl hn)
  case lshl => obtain ⟨x, y, r, rfl, rfl⟩ := shJ_ex h1; exact lv_lshl hx hb hdg rfl (kk L hl hn)
  case lshr => obtain ⟨x, y, r, rfl, rfl⟩ := shJ_ex h1; exact lv_lshr hx hb hdg rfl (kk L hl hn)
  case lcmp =>
    dsimp only [step1] at h1
    split at h1
    · cases h1; exact W.lcmp hx hb hdg (kk L hl hn)
    · cases h1
  case i2l =>
    dsimp only [step1] at h1
    split at h1
    · cases h1; exact lv_i2l hx hb hdg rfl (kk L hl hn)
    · cases h1
  case l2i =>
    dsimp only [step1] at h1
    split at h1
    · cases h1; exact lv_l2i hx hb hdg rfl (kk L hl hn)
    · cases h1
  case dup =>
    dsimp only [step1] at h1
    split at h1
    · cases h1; exact lv_dup hx hb hdg rfl (kk L hl hn)
    · cases h1; exact lv_dup hx hb hdg rf_cat (kk L hl hn)
    · cases h1
  case dup2 =>
    dsimp only [step1] at h1
    split at h1
    · cases h1; exact lv_dup2_11 hx hb hdg rfl rf_cat (kk L hl hn)
    · cases h1
  case pop =>
    dsimp only [step1] at h1
    split at h1
    · rename_i x r
      cases h1; exact lv_pop (va := .int x) hx hb hdg rfl (kk L hl hn)
    · rename_i x r
      cases h1; exact lv_pop (va := trv φ (.inr (.inr x))) hx hb hdg rf_cat (kk L hl hn)
    · cases h1
  case goto off =>
    obtain ⟨t, ht, rfl⟩ := Option.map_eq_some_iff.mp h1
    exact lv_goto hx hb hdg (jto_ex ht) (kk L hl hn)
  all_goals cases h1
end SND
