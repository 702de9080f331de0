/-! String.checkIndex, by hand: it looks at its numbers and goes -/
def pckName : MethodName := ⟨"jdk/internal/util/Preconditions", "checkIndex", "(IILjava/util/function/BiFunction;)I"⟩
abbrev pckB : ByteArray := prog_20_method_11_code
abbrev ckB : ByteArray := prog_17_method_155_code
def wsPck : List Cond := [.code pckName pckB 3 (some .int)]
def wsCk : List Cond := .code ckName ckB 2 none :: lw_good
theorem pk_0 : decode pckB 0 = .ok (.iload_n 0, 1) := by decide +kernel
theorem pk_1 : decode pckB 1 = .ok (.ifCond .lt 8, 3) := by decide +kernel
theorem pk_4 : decode pckB 4 = .ok (.iload_n 0, 1) := by decide +kernel
theorem pk_5 : decode pckB 5 = .ok (.iload_n 1, 1) := by decide +kernel
theorem pk_6 : decode pckB 6 = .ok (.if_icmp .lt 10, 3) := by decide +kernel
theorem pk_16 : decode pckB 16 = .ok (.iload_n 0, 1) := by decide +kernel
theorem pk_17 : decode pckB 17 = .ok (.ireturn, 1) := by decide +kernel
theorem ck_0 : decode ckB 0 = .ok (.iload_n 0, 1) := by decide +kernel
theorem ck_1 : decode ckB 1 = .ok (.iload_n 1, 1) := by decide +kernel
theorem ck_2 : decode ckB 2 = .ok (.getstatic 1053, 3) := by decide +kernel
theorem ck_5 : decode ckB 5 = .ok (.invokestatic 1059, 3) := by decide +kernel
theorem ck_8 : decode ckB 8 = .ok (.pop, 1) := by decide +kernel
theorem ck_9 : decode ckB 9 = .ok (.return_, 1) := by decide +kernel
set_option maxRecDepth 100000 in
theorem ckw_1 : Cond.fieldLink "java/lang/String" 1053 "jdk/internal/util/Preconditions" "SIOOBE_FORMATTER" "Ljava/util/function/BiFunction;" ∈ lw_good := wOK_mem (j := 289) (by decide +kernel)
set_option maxRecDepth 100000 in
theorem ckw_2 : Cond.methodLink "java/lang/String" 1059 pckName ∈ lw_good := wOK_mem (j := 369) (by decide +kernel)
set_option maxRecDepth 100000 in
theorem ckw_3 : Cond.code pckName pckB 3 (some .int) ∈ lw_good := List.mem_filter.mpr ⟨List.mem_of_getElem? (show lw_tbl[371]? = some _ from rfl), rfl⟩
set_option maxRecDepth 100000 in
theorem ckw_4 : Cond.initialized "jdk/internal/util/Preconditions" ∈ lw_good := wOK_mem (j := 104) (by decide +kernel)
set_option maxRecDepth 100000 in
theorem ckw_5 : Cond.static pckName ∈ lw_good := wOK_mem (j := 370) (by decide +kernel)
set_option maxRecDepth 100000 in
theorem ckw_6 : Cond.code ckName ckB 2 none ∈ lw_good := List.mem_filter.mpr ⟨List.mem_of_getElem? (show lw_tbl[368]? = some _ from rfl), rfl⟩
set_option maxRecDepth 100000 in
theorem ckw_7 : Cond.static ckName ∈ lw_good := wOK_mem (j := 367) (by decide +kernel)
set_option maxRecDepth 100000 in
theorem ckw_8 : Cond.initialized "java/lang/String" ∈ lw_good := wOK_mem (j := 101) (by decide +kernel)
def ckQ : Option Value → Array Value → State → Outcome → State → Prop := fun v _ st oc t => oc = .returned v ∧ t.heap = st.heap
set_option maxHeartbeats 4000000 in
set_option maxRecDepth 100000 in
theorem c_pck (l : Launch) (i n : Int32) (v : Value) (hv : v = .null ∨ ∃ a, v = .ref a) (h1 : ¬ i < 0) (h2 : i < n) : Met l pckName wsPck ({ frames := 0, cells := 0, slots := 0, locals := 0 }) (va_Pc [.int i, .int n, v] (fun _ => True)) (ckQ (some (.int i))) 0 0 (fun _ => False) := by
  refine Met.ofW (cc := pckB) (maxL := 3) (ret := some .int) (by decide) rfl ?_
  intro p e s m args below meth c s₁ B hml hv0
  obtain ⟨rfl, -⟩ := hv0
  have hx := B.exec
  have hb := B.bytes
  have hr := B.returns
  have hlocks := B.notSynchronized
  have hcat : (lg_sl ([.int i, .int n, v])).length ≤ 3 := by rcases hv with rfl | ⟨a, rfl⟩ <;> exact Nat.le_refl 3
  have hl := lv_entry ([.int i, .int n, v]) (n := 3) hcat
  rw [lg_entry_eq]
  generalize (lg_sl ([.int i, .int n, v]) ++ List.replicate (3 - (lg_sl ([.int i, .int n, v])).length) Slot.unset).toArray = ls at hl ⊢
  refine lv_iload_n hx hb pk_0 rfl (lv_at hl 0 rfl) ?_
  refine lv_if_lt (tgt := 9) hx hb pk_1 (by decide) (fun c => absurd c h1) (fun _ => ?_)
  refine lv_iload_n hx hb pk_4 rfl (lv_at hl 0 rfl) ?_
  refine lv_iload_n hx hb pk_5 rfl (lv_at hl 1 rfl) ?_
  refine lv_icmp_lt (tgt := 16) hx hb pk_6 (by decide) (fun _ => ?_) (fun c => absurd h2 c)
  refine lv_iload_n hx hb pk_16 rfl (lv_at hl 0 rfl) ?_
  exact W.iret (v := i) hx hb hr (fun t ht hW => ⟨rfl, ht⟩) (fun q hq => by cases hq) pk_17
set_option maxHeartbeats 4000000 in
set_option maxRecDepth 100000 in
theorem c_ck (l : Launch) (A : Nat → Prop) (i n : Int32) (h1 : ¬ i < 0) (h2 : i < n) : Met l ckName wsCk ({ frames := 1, cells := 0, slots := 0, locals := 64 }) (va_Pc [.int i, .int n] (fun U => va_Zq "jdk/internal/util/Preconditions" "SIOOBE_FORMATTER" "Ljava/util/function/BiFunction;" A U U.heap)) (ckQ none) 0 0 A := by
  refine Met.ofW (cc := ckB) (maxL := 2) (ret := none) (by decide) rfl ?_
  intro p e s m args below meth c s₁ B hml hv0
  obtain ⟨rfl, hZ⟩ := hv0
  have hx := B.exec
  have hb := B.bytes
  have hr := B.returns
  have hlocks := B.notSynchronized
  have hts := atoms_spec (ws := wsCk) B.pre
  have hts2 : ∀ w ∈ lw_good, w.before #[Value.int i, Value.int n] s = true := fun w hw => hts w (List.mem_cons_of_mem _ hw)
  have hown : s.vm.findClass "java/lang/String" = some m.cls := findClass_of_methodNamed B.named
  have hl := lv_entry ([.int i, .int n]) (n := 2) (Nat.le_of_ble_eq_true rfl)
  rw [lg_entry_eq]
  generalize (lg_sl ([.int i, .int n]) ++ List.replicate (2 - (lg_sl ([.int i, .int n])).length) Slot.unset).toArray = ls at hl ⊢
  have hS : va_S A s.heap s.heap [] := va_S.rf
  have key : ∀ v : Value, (v = .null ∨ ∃ a, v = .ref a) → va_Z "jdk/internal/util/Preconditions" "SIOOBE_FORMATTER" "Ljava/util/function/BiFunction;" v A s s.heap → W p l e (headSpec wsCk { frames := 1, cells := 0, slots := 0, locals := 64 }).room s m #[Value.int i, Value.int n] below meth c s.heap [] 0 0 (MQ below (ckQ none) #[Value.int i, Value.int n] s 0 0 A) (F0 m 0 ls []) := by
    intro v hv hZ
    refine lv_iload_n hx hb ck_0 rfl (lv_at hl 0 rfl) ?_
    refine lv_iload_n hx hb ck_1 rfl (lv_at hl 1 rfl) ?_
    refine va_gets hx hb hZ hS hown (hts2 _ ckw_1) (fun _ z => z) ck_2 ?_
    have hG : GoodIn lw_good wsPck := fun w hw => by
      rcases List.mem_cons.mp hw with rfl | hw
      · exact ⟨ckw_3, good_of_word (lw_good_good ckw_3).2⟩
      · cases hw
    refine s_call (A := A) (free := fun _ => False) (rest := []) (mc := 0) (ms := 0) (Qa := ckQ (some (.int i)) #[.int i, .int n, v]) (va_runS (As := [.int i, .int n, v]) (rest := []) (Ts := lw_good) ⟨hx, hb, hml, hown, hts2⟩ (c_pck l i n v hv h1 h2) ⟨callB_of 3 hts2 hG rfl rfl rfl (hts2 _ ckw_4) (hts2 _ ckw_2) (by decide +kernel) ⟨Nat.le_of_ble_eq_true rfl, Nat.le_of_ble_eq_true rfl⟩, hts2 _ ckw_5⟩ ⟨fun _ _ _ _ q => q, fun U hU hW => ⟨rfl, trivial⟩⟩ rfl rfl hl.1 rfl (lv_room (Nat.le_of_ble_eq_true rfl)) ck_5 ⟨Nat.le_of_ble_eq_true rfl, Nat.le_of_ble_eq_true rfl⟩) hS (fun q z => z.elim) (fun v st t h0 hq => ⟨by rw [hq.2]; exact Nat.le_refl _, fun q _ _ => by rw [hq.2]⟩) ?_
    rintro v1 st t H1 locs1 ht hal h0 ⟨hv1, hh⟩ hS1
    cases hv1
    have eH : H1 = s.heap := by rw [← ht, hh, h0]
    subst eH
    refine lv_pop (va := .int i) hx hb ck_8 rfl ?_
    exact W.vret hx hb hr (fun t ht hW => ⟨rfl, ht⟩) hS1.2.2 ck_9
  rcases hZ with hZ | ⟨t, hZ⟩
  · exact key .null (Or.inl rfl) hZ
  · exact key (.ref t) (Or.inr ⟨t, rfl⟩) hZ
