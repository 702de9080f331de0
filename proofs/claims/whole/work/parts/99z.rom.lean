/-! the constants that the program reads, at the start -/
def fl0 : List Cond := flatC (Jvm.Cond.and given_1 narrow_1)
def sPos : List Nat := [267, 276, 284, 486, 1276, 1319, 1355, 1413, 1422, 1439, 1450, 1469, 1816, 1500, 1704, 1860, 559, 601, 658, 693, 701, 1150, 752, 713, 722, 1191, 1197, 1209, 1224, 955, 1066, 1109, 549, 91]
def sWrd : List Nat := [345, 387, 388, 418, 733, 744, 745, 746, 755, 756, 757, 758, 765, 763, 764, 770, 565, 567, 568, 569, 577, 662, 588, 582, 583, 670, 671, 680, 681, 589, 648, 657, 424, 257]
def tmS (i : Nat) : Term := .string (cnm (strL.getD i (0, 0, 0)).1) (strL.getD i (0, 0, 0)).2.1
def tmV (i : Nat) : Term := .field (tmS i) "java/lang/String" "value" "[B"
def exS (i : Nat) : List Cond := .exactly (tmS i) "java/lang/String" :: .eq (.field (tmS i) "java/lang/String" "coder" "B") (.int 0) :: .arrayOf (tmV i) .byte :: .eq (.length (tmV i)) (.int (Int32.ofNat (romB i).length)) :: (List.range (romB i).length).map (fun j => .eq (.elem (tmV i) (.int (Int32.ofNat j))) (.int ((romB i).getD j 0)))
def tmI (a : Nat) : Term := match a with
  | 0 => .static "HeraldDesk" "FAMILIES" "[I"
  | 1 => .static "HeraldDesk$Painter" "FIELD_U" "[I"
  | _ => .static "HeraldDesk$Painter" "FIELD_V" "[I"
def exI (a : Nat) : List Cond := .arrayOf (tmI a) .int :: .eq (.length (tmI a)) (.int (Int32.ofNat (romI a).length)) :: (List.range (romI a).length).map (fun j => .eq (.elem (tmI a) (.int (Int32.ofNat j))) (.int ((romI a).getD j 0)))
def ckP (p : Nat) (e : List Cond) : Bool := decide ((fl0.drop p).take e.length = e)
theorem ckP_mem {p : Nat} {e : List Cond} (h : ckP p e = true) {w : Cond} (hw : w ∈ e) : w ∈ fl0 := by
  have h := of_decide_eq_true h
  rw [← h] at hw
  exact List.mem_of_mem_drop (List.mem_of_mem_take hw)
set_option maxRecDepth 100000 in
theorem exS_ok : (List.range 34).all (fun i => ckP (sPos.getD i 0) (exS i)) = true := by decide +kernel
set_option maxRecDepth 100000 in
theorem exI_ok : ckP 10 (exI 0) = true ∧ ckP 44 (exI 1) = true ∧ ckP 68 (exI 2) = true := by decide +kernel
theorem exZ_ok : ckP 4 [.eq (.static "java/lang/String" "COMPACT_STRINGS" "Z") (.int 1), .isRef (.static "jdk/internal/util/Preconditions" "SIOOBE_FORMATTER" "Ljava/util/function/BiFunction;")] = true := by decide +kernel
def ckS (q : (Nat × Nat × Nat) × Nat) : Bool := decide (lw_tbl[q.2]? = some (.stringRef (cnm q.1.1) q.1.2.1 (txtL.getD q.1.2.2 "")))
theorem ckS_ok : (strL.zip sWrd).all ckS = true := by decide +kernel
theorem strL_at : strL.all (fun q => decide (strL.getD q.2.2 (0, 0, 0) = q) && Nat.blt q.2.2 34) = true := by decide +kernel
theorem tb_z0 : Cond.laysStatic "HeraldDesk" "FAMILIES" "[I" ∈ lw_tbl := List.mem_of_getElem? (i := 832) (by decide +kernel)
theorem tb_z1 : Cond.laysStatic "HeraldDesk$Painter" "FIELD_U" "[I" ∈ lw_tbl := List.mem_of_getElem? (i := 906) (by decide +kernel)
theorem tb_z2 : Cond.laysStatic "HeraldDesk$Painter" "FIELD_V" "[I" ∈ lw_tbl := List.mem_of_getElem? (i := 912) (by decide +kernel)
theorem tb_z3 : Cond.laysStatic "java/lang/String" "COMPACT_STRINGS" "Z" ∈ lw_tbl := List.mem_of_getElem? (i := 267) (by decide +kernel)
theorem tb_z4 : Cond.laysStatic "jdk/internal/util/Preconditions" "SIOOBE_FORMATTER" "Ljava/util/function/BiFunction;" ∈ lw_tbl := List.mem_of_getElem? (i := 290) (by decide +kernel)
theorem tb_y0 : Cond.initialized "HeraldDesk" ∈ lw_tbl := List.mem_of_getElem? (i := 93) (by decide +kernel)
theorem tb_y1 : Cond.initialized "HeraldDesk$Painter" ∈ lw_tbl := List.mem_of_getElem? (i := 110) (by decide +kernel)
theorem tb_y3 : Cond.initialized "java/lang/String" ∈ lw_tbl := List.mem_of_getElem? (i := 101) (by decide +kernel)
theorem tb_y4 : Cond.initialized "jdk/internal/util/Preconditions" ∈ lw_tbl := List.mem_of_getElem? (i := 104) (by decide +kernel)
theorem tb_a1 : Cond.arrayOver (.object (cnm 1)) ∈ lw_tbl := List.mem_of_getElem? (i := 218) (by decide +kernel)
theorem tb_a3 : Cond.arrayOver (.object (cnm 3)) ∈ lw_tbl := List.mem_of_getElem? (i := 535) (by decide +kernel)
theorem tb_a5 : Cond.arrayOver (.object (cnm 5)) ∈ lw_tbl := List.mem_of_getElem? (i := 245) (by decide +kernel)
theorem tb_a7 : Cond.arrayOver (.object (cnm 7)) ∈ lw_tbl := List.mem_of_getElem? (i := 121) (by decide +kernel)
theorem rom_start {b : Nat} {s : State} (hts : ∀ w ∈ lw_tbl, w.before #[Value.ref b] s = true) (hgv : (Jvm.Cond.and given_1 narrow_1).before #[Value.ref b] s = true) : ∃ φ : Nat → Nat → Nat, Rom φ (fun q => s.heap.size ≤ q) s s.heap := by
  have hf : ∀ w ∈ fl0, w.before #[Value.ref b] s = true := flat_of_before _ hgv
  have hA : ∀ a : Nat, a < s.heap.size → ¬ (fun q => s.heap.size ≤ q) a := fun a h => Nat.not_le.mpr h
  generalize (fun q : Nat => s.heap.size ≤ q) = A at hA ⊢
  have h0 : ∀ i : Nat, ∃ q : Nat × Nat, i < 34 → (tmS i).eval #[Value.ref b] s none [] s = some (.ref q.1) ∧ va_O "java/lang/String" q.1 A s s.heap ∧ va_OF "java/lang/String" "coder" "B" (.int 0) q.1 A s s.heap ∧ va_OF "java/lang/String" "value" "[B" (.ref q.2) q.1 A s s.heap ∧ va_T .byte q.2 (romB i).length (fun j => .int ((romB i).getD j 0)) A s s.heap := by
    intro i
    by_cases hi : i < 34
    · have ck := all_r exS_ok hi
      have hm : ∀ w ∈ exS i, w.before #[Value.ref b] s = true := fun w hw => hf w (ckP_mem ck hw)
      have hN : (romB i).length < 2 ^ 31 := by
        have := all_r (show (List.range 34).all (fun i => Nat.blt (romB i).length 1000) = true by decide +kernel) hi
        have := Nat.blt_eq.mp this
        omega
      obtain ⟨a, c, cA, kA, q1, q2, q3, q4, q5, q6, -⟩ := Cond.exactly_spec (args := #[Value.ref b]) (first := s) (o := none) (s := s) (idx := []) (t := tmS i) (cls := "java/lang/String") (hm _ List.mem_cons_self)
      obtain ⟨t, ht, hT⟩ := va_Tof (tm := tmV i) (f := fun j => .int ((romB i).getD j 0)) (A := A) hN (hm _ (List.mem_cons_of_mem _ (List.mem_cons_of_mem _ List.mem_cons_self))) (va_eqt (hm _ (List.mem_cons_of_mem _ (List.mem_cons_of_mem _ (List.mem_cons_of_mem _ List.mem_cons_self))))) (fun j hj => va_eqt (hm _ (List.mem_cons_of_mem _ (List.mem_cons_of_mem _ (List.mem_cons_of_mem _ (List.mem_cons_of_mem _ (List.mem_map.mpr ⟨j, List.mem_range.mpr hj, rfl⟩))))))) hA
      exact ⟨(a, t), fun _ => ⟨q1, ⟨cA, q3, q5, by rw [q6]; exact q2, hA a (Array.getElem?_eq_some_iff.mp q3).1⟩, vk_OFof q1 (va_eqt (hm _ (List.mem_cons_of_mem _ List.mem_cons_self))) hA, vk_OFof q1 ht hA, hT⟩⟩
    · exact ⟨(0, 0), fun h => absurd h hi⟩
  obtain ⟨ad, had⟩ := Classical.axiomOfChoice h0
  have h1 : ∀ a : Nat, ckP (if a = 0 then 10 else if a = 1 then 44 else 68) (exI a) = true → (romI a).length < 2 ^ 31 → ∃ t : Nat, (tmI a).eval #[Value.ref b] s none [] s = some (.ref t) ∧ va_T .int t (romI a).length (fun j => .int ((romI a).getD j 0)) A s s.heap := by
    intro a ck hN
    have hm : ∀ w ∈ exI a, w.before #[Value.ref b] s = true := fun w hw => hf w (ckP_mem ck hw)
    exact va_Tof (tm := tmI a) (f := fun j => .int ((romI a).getD j 0)) (A := A) hN (hm _ List.mem_cons_self) (va_eqt (hm _ (List.mem_cons_of_mem _ List.mem_cons_self))) (fun j hj => va_eqt (hm _ (List.mem_cons_of_mem _ (List.mem_cons_of_mem _ (List.mem_map.mpr ⟨j, List.mem_range.mpr hj, rfl⟩))))) hA
  obtain ⟨t0, e0, T0⟩ := h1 0 exI_ok.1 (by decide)
  obtain ⟨t1, e1, T1⟩ := h1 1 exI_ok.2.1 (by decide)
  obtain ⟨t2, e2, T2⟩ := h1 2 exI_ok.2.2 (by decide)
  refine ⟨fun t a => if t = 40 then (ad a).1 else if t = 41 then (ad a).2 else if a = 0 then t0 else if a = 1 then t1 else t2, fun i hi => (had i hi).2, fun own idx id hl => ?_, fun a ha => ?_, va_Zref (hts _ tb_z0) (hts _ tb_y0) e0 hA, va_Zref (hts _ tb_z1) (hts _ tb_y1) e1 hA, va_Zref (hts _ tb_z2) (hts _ tb_y1) e2 hA, va_Zof (hts _ tb_z3) (hts _ tb_y3) (va_eqi (hf _ (ckP_mem exZ_ok List.mem_cons_self))) hA, va_Zqof (hts _ tb_z4) (hts _ tb_y4) (hf _ (ckP_mem exZ_ok (List.mem_cons_of_mem _ List.mem_cons_self))) hA, fun w hw => ?_, fun e he => ?_⟩
  · have hm := lk2_mem hl
    have hq := List.all_eq_true.mp strL_at _ hm
    simp only [Bool.and_eq_true, decide_eq_true_eq, Nat.blt_eq] at hq
    obtain ⟨j, hj⟩ := all_zip ckS_ok (show strL.length ≤ sWrd.length by decide +kernel) _ hm
    have hj := of_decide_eq_true hj
    have he := (had id hq.2).1
    unfold tmS at he
    rw [hq.1] at he
    exact vk_R.of (hts _ (List.mem_of_getElem? hj)) he
  · rcases (show a = 0 ∨ a = 1 ∨ a = 2 by omega) with rfl | rfl | rfl
    · exact T0
    · exact T1
    · exact T2
  · obtain ⟨j, hj⟩ := all_zip nest_ok (show nestL.length ≤ nestW.length by decide +kernel) w hw
    unfold nestOk at hj
    simp only [Bool.and_eq_true, decide_eq_true_eq] at hj
    exact va_Nw.of hj.2 (hts _ (List.mem_of_getElem? hj.1))
  · simp only [List.mem_cons, List.not_mem_nil, or_false] at he
    rcases he with rfl | rfl | rfl | rfl
    · exact va_AO.of (hts _ tb_a1)
    · exact va_AO.of (hts _ tb_a3)
    · exact va_AO.of (hts _ tb_a5)
    · exact va_AO.of (hts _ tb_a7)
