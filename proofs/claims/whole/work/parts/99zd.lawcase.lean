/-! one call of the law: both are asked, both answer alike -/
def LX (D : va_G) (s : State) (q1 q2 : Nat) (h1 h2 : Hp) (H : Heap) (locs : List Loc) : Prop := 0 < jN h1 10 ∧ 0 < jN h2 11 ∧ ∃ (φ1 : Nat → Nat → Nat) (ws1 : va_W) (tys1 : List (ClassId × FieldType)) (φ2 : Nat → Nat → Nat) (ws2 : va_W) (tys2 : List (ClassId × FieldType)), Wld D (fun q => s.heap.size ≤ q) s h1 φ1 ws1 tys1 H locs ∧ Wld D (fun q => s.heap.size ≤ q) s h2 φ2 ws2 tys2 H locs ∧ Dj ws1 ws2 ∧ φ1 10 0 = q1 ∧ φ2 11 0 = q2
theorem LX.S {D : va_G} {s : State} {q1 q2 : Nat} {h1 h2 : Hp} {H : Heap} {locs : List Loc} (X : LX D s q1 q2 h1 h2 H locs) : va_S (fun q => s.heap.size ≤ q) s.heap H locs := by
  obtain ⟨-, -, φ1, ws1, tys1, φ2, ws2, tys2, w1, -⟩ := X
  exact w1.2.2.2.2.1
section LAWC
variable {p : Program} {l : Launch} {e : Env} {s : State} {m : MethodId} {below : List Frame} {meth : Method} {c : Code} {H : Heap} {locs : List Loc} {cells slots : Nat} {Qw : State → Prop}
variable {b L q1 q2 : Nat} {xs : Nat → Int32} {D : va_G} {h1 h2 : Hp} {ls : Array Slot} {pc i : Nat} {rest : List Value}
theorem good_of (C0 : lw_At p s m meth c b L xs) : ∀ w ∈ lw_good, w.before #[Value.ref b] s = true := by
  obtain ⟨hx, hb, hr, hml, hown, hts, hX, hbl, hlocks, hgv⟩ := C0
  exact fun w hw => hts w (lw_good_good hw).1
/-- an argument of the call, out of the script -/
theorem law_arg (C0 : lw_At p s m meth c b L xs) (hS : va_S (fun q => s.heap.size ≤ q) s.heap H locs) (hL : L ≤ 3072) (hi : i + 6 ≤ L) {k : Nat} (hk : k ≤ 5) (hl : lv_has ls 4 [(3, .int (nI i)), (2, .ref q2), (1, .ref q1), (0, .ref b)]) (ck : ckArg pc k = true)
    (kk : W p l e room_1 s m #[Value.ref b] below meth c H locs cells slots Qw (F0 m (pc + 5) ls (.int (xs (i + k)) :: rest))) : W p l e room_1 s m #[Value.ref b] below meth c H locs cells slots Qw (F0 m pc ls rest) := by
  obtain ⟨hx, hb, hr, hml, hown, hts, hX, hbl, hlocks, hgv⟩ := C0
  unfold ckArg at ck
  simp only [Bool.and_eq_true] at ck
  obtain ⟨⟨⟨⟨d0, d1⟩, d2⟩, d3⟩, d4⟩ := ck
  have hk' : Int32.ofInt (Int.ofNat k) = nI k := by
    rcases (show k = 0 ∨ k = 1 ∨ k = 2 ∨ k = 3 ∨ k = 4 ∨ k = 5 by omega) with rfl | rfl | rfl | rfl | rfl | rfl <;> decide +kernel
  refine lv_aload_n hx hb (dkL_ok d0) rfl (lv_at hl 3 rfl) ?_
  refine lv_iload_n hx hb (dkL_ok d1) rfl (lv_at hl 0 rfl) ?_
  refine lv_iconst (v := nI k) hx hb (dkL_ok d2) hk' ?_
  refine lv_iadd hx hb (dkL_ok d3) ?_
  rw [nI_add]
  refine va_sld hx hb hX hbl (Nat.not_le.mpr hbl) hS (vp_in_nI (by omega) (by omega)) (dkL_ok d4) ?_
  rw [nI_clamp (by omega)]
  exact kk
def asL (xs : Nat → Int32) (i n : Nat) : List Int32 := (List.range n).map (fun k => xs (i + k + 1))
theorem asL_s (xs : Nat → Int32) (i n : Nat) : asL xs i (n + 1) = asL xs i n ++ [xs (i + n + 1)] := by
  unfold asL
  rw [List.range_succ, List.map_append]
  rfl
theorem asL_len (xs : Nat → Int32) (i n : Nat) : (asL xs i n).length = n := by
  unfold asL
  rw [List.length_map, List.length_range]
theorem law_args (C0 : lw_At p s m meth c b L xs) (hS : va_S (fun q => s.heap.size ≤ q) s.heap H locs) (hL : L ≤ 3072) (hi : i + 6 ≤ L) {k0 : Nat} (hl : lv_has ls 4 [(3, .int (nI i)), (2, .ref q2), (1, .ref q1), (0, .ref b)]) : ∀ n, k0 + n ≤ 5 → ckArgs pc k0 n = true →
    (W p l e room_1 s m #[Value.ref b] below meth c H locs cells slots Qw (F0 m (pc + 5 * n) ls (((asL xs (i + k0) n).map Value.int).reverse ++ rest))) → W p l e room_1 s m #[Value.ref b] below meth c H locs cells slots Qw (F0 m pc ls rest)
  | 0, _, _, kk => kk
  | n + 1, hn, ck, kk => by
    unfold ckArgs at ck
    simp only [Bool.and_eq_true] at ck
    refine law_args C0 hS hL hi hl n (by omega) ck.1 ?_
    refine law_arg C0 hS hL hi (k := k0 + n + 1) (by omega) hl ck.2 ?_
    rw [asL_s, List.map_append, List.reverse_append] at kk
    rw [show i + (k0 + n + 1) = i + k0 + n + 1 by omega]
    exact kk
/-- the boolean that is asked of a number -/
theorem law_bool (C0 : lw_At p s m meth c b L xs) (hS : va_S (fun q => s.heap.size ≤ q) s.heap H locs) (hL : L ≤ 3072) (hi : i + 6 ≤ L) (hl : lv_has ls 4 [(3, .int (nI i)), (2, .ref q2), (1, .ref q1), (0, .ref b)]) (ck : ckBool pc = true)
    (kk : W p l e room_1 s m #[Value.ref b] below meth c H locs cells slots Qw (F0 m (pc + 13) ls (.int (bi (decide (¬ xs (i + 1) = 0))) :: rest))) : W p l e room_1 s m #[Value.ref b] below meth c H locs cells slots Qw (F0 m pc ls rest) := by
  unfold ckBool at ck
  simp only [Bool.and_eq_true] at ck
  obtain ⟨⟨⟨⟨d0, d1⟩, d2⟩, d3⟩, d4⟩ := ck
  refine law_arg C0 hS hL hi (k := 1) (by omega) hl d0 ?_
  obtain ⟨hx, hb, hr, hml, hown, hts, hX, hbl, hlocks, hgv⟩ := C0
  refine lv_if_eq (tgt := pc + 12) hx hb (dkL_ok d1) (by omega) (fun z => ?_) (fun z => ?_)
  · refine lv_iconst (v := 0) hx hb (dkL_ok d4) rfl ?_
    rw [decide_eq_false (fun q => q z)] at kk
    exact kk
  · refine lv_iconst (v := 1) hx hb (dkL_ok d2) rfl ?_
    refine lv_goto (tgt := pc + 13) hx hb (dkL_ok d3) (by omega) ?_
    rw [decide_eq_true z] at kk
    exact kk
/-- the class is asked -/
theorem law_c (C0 : lw_At p s m meth c b L xs) (X : LX D s q1 q2 h1 h2 H locs) {y idx : Nat} {as : List Int32} (w : OkV y 10 as.length idx) {K : Int32 → Hp → Prop} (hC : CI 60 y (vR 10 (some 0) :: as.map vI) h1 K) (hroom : ∀ x h', K x h' → cells + (jC h' - jC h1) ≤ 600000 ∧ slots + (jZ h' - jZ h1) ≤ 7302250) (hsize : ls.size = 4) (hrest : (rest.map fun v => v.category).sum ≤ 8) (hdg : dkL pc (.invokevirtual idx) 3 = true)
    (kk : ∀ x h' H1 locs1, K x h' → hle h1 h' → LX D s q1 q2 h' h2 H1 locs1 → W p l e room_1 s m #[Value.ref b] below meth c H1 locs1 (cells + (jC h' - jC h1)) (slots + (jZ h' - jZ h1)) Qw (F0 m (pc + 3) ls (.int x :: rest))) : W p l e room_1 s m #[Value.ref b] below meth c H locs cells slots Qw (F0 m pc ls ((as.map Value.int).reverse ++ .ref q1 :: rest)) := by
  have hts := good_of C0
  obtain ⟨hx, hb, hr, hml, hown, -, hX, hbl, hlocks, hgv⟩ := C0
  obtain ⟨j1, j2, φ1, ws1, tys1, φ2, ws2, tys2, w1, w2, dj, rfl, rfl⟩ := X
  obtain ⟨hy, hki, ho, hpa, hlo, hlk⟩ := w
  refine two_v hx hb hml hown hts w1 w2 dj (fun _ h => h) hy ho hki (by decide) hlk hpa hlo j1 hC (by decide) (by decide) hroom hsize hrest (dkL_ok hdg) (fun x h' φ' ws' tys' H1 locs1 z1 z2 z3 z4 z5 z6 => ?_)
  exact kk x h' H1 locs1 z1 z2 ⟨Nat.lt_of_lt_of_le j1 (z2.1 10), j2, φ', ws', tys', φ2, ws2, tys2, z4, z5, z6, z3 10 0 j1, rfl⟩
/-- the reference is asked -/
theorem law_d (C0 : lw_At p s m meth c b L xs) (X : LX D s q1 q2 h1 h2 H locs) {y idx : Nat} {as : List Int32} (w : OkV y 11 as.length idx) {K : Int32 → Hp → Prop} (hC : CI 60 y (vR 11 (some 0) :: as.map vI) h2 K) (hroom : ∀ x h', K x h' → cells + (jC h' - jC h2) ≤ 600000 ∧ slots + (jZ h' - jZ h2) ≤ 7302250) (hsize : ls.size = 4) (hrest : (rest.map fun v => v.category).sum ≤ 8) (hdg : dkL pc (.invokevirtual idx) 3 = true)
    (kk : ∀ x h' H1 locs1, K x h' → hle h2 h' → LX D s q1 q2 h1 h' H1 locs1 → W p l e room_1 s m #[Value.ref b] below meth c H1 locs1 (cells + (jC h' - jC h2)) (slots + (jZ h' - jZ h2)) Qw (F0 m (pc + 3) ls (.int x :: rest))) : W p l e room_1 s m #[Value.ref b] below meth c H locs cells slots Qw (F0 m pc ls ((as.map Value.int).reverse ++ .ref q2 :: rest)) := by
  have hts := good_of C0
  obtain ⟨hx, hb, hr, hml, hown, -, hX, hbl, hlocks, hgv⟩ := C0
  obtain ⟨j1, j2, φ1, ws1, tys1, φ2, ws2, tys2, w1, w2, dj, rfl, rfl⟩ := X
  obtain ⟨hy, hki, ho, hpa, hlo, hlk⟩ := w
  refine two_v hx hb hml hown hts w2 w1 dj.symm (fun _ h => h) hy ho hki (by decide) hlk hpa hlo j2 hC (by decide) (by decide) hroom hsize hrest (dkL_ok hdg) (fun x h' φ' ws' tys' H1 locs1 z1 z2 z3 z4 z5 z6 => ?_)
  exact kk x h' H1 locs1 z1 z2 ⟨j1, Nat.lt_of_lt_of_le j2 (z2.1 11), φ1, ws1, tys1, φ', ws', tys', z5, z4, z6.symm, rfl, z3 11 0 j2⟩
/-- what goes on behind a call -/
def NxL (p : Program) (l : Launch) (e : Env) (s : State) (m : MethodId) (below : List Frame) (meth : Method) (c : Code) (Qw : State → Prop) (b q1 q2 : Nat) (D : va_G) (ls : Array Slot) (h1 h2 : Hp) : Prop := ∀ (S : Sta) (h1' h2' : Hp) (H : Heap) (locs : List Loc), StV S → RepC S h1' → RepR S h2' → LX D s q1 q2 h1' h2' H locs → Gr h1 h1' → jC h2' = jC h2 → jZ h2' = jZ h2 → W p l e room_1 s m #[Value.ref b] below meth c H locs (jC h1' + jC h2') (jZ h1' + jZ h2') Qw (F0 m 733 ls [])
/-- behind the loading of the first row of arguments: both calls and the comparison -/
theorem law_both (C0 : lw_At p s m meth c b L xs) (X : LX D s q1 q2 h1 h2 H locs) (hb1 : jC h1 ≤ 20000) (hb2 : jZ h1 ≤ 100000) (hb3 : jC h2 ≤ 29) (hb4 : jZ h2 ≤ 20000) (hl : lv_has ls 4 [(3, .int (nI i)), (2, .ref q2), (1, .ref q1), (0, .ref b)]) {S : Sta} {y1 y2 n idx1 idx2 pc2 : Nat} {as : List Int32} (w1 : OkV y1 10 n idx1) (w2 : OkV y2 11 n idx2) (hn : as.length = n) (hB : Bo S h1 h2 y1 y2 as) (d1 : dkL pc (.invokevirtual idx1) 3 = true) (d2 : dkL (pc + 3) (.aload_n 2) 1 = true)
    (hld : ∀ (x : Int32) (H : Heap) (locs : List Loc) (cells slots : Nat), va_S (fun q => s.heap.size ≤ q) s.heap H locs → W p l e room_1 s m #[Value.ref b] below meth c H locs cells slots Qw (F0 m pc2 ls ((as.map Value.int).reverse ++ .ref q2 :: .int x :: [])) → W p l e room_1 s m #[Value.ref b] below meth c H locs cells slots Qw (F0 m (pc + 4) ls (.ref q2 :: .int x :: [])))
    (d3 : dkL pc2 (.invokevirtual idx2) 3 = true) (d4 : dkL (pc2 + 3) (.if_icmp .eq (733 - Int.ofNat (pc2 + 3))) 3 = true) (kk : NxL p l e s m below meth c Qw b q1 q2 D ls h1 h2) : W p l e room_1 s m #[Value.ref b] below meth c H locs (jC h1 + jC h2) (jZ h1 + jZ h2) Qw (F0 m pc ls ((as.map Value.int).reverse ++ .ref q1 :: [])) := by
  subst hn
  obtain ⟨x, S', V', c1, c2⟩ := hB
  refine law_c C0 X w1 c1 (fun x' h' z => ?_) hl.1 (by decide) d1 (fun x1 h1' H1 locs1 z1 g1 X1 => ?_)
  · have g1 := z.2.2.1
    have g2 := z.2.2.2
    omega
  obtain ⟨rfl, r1, G1⟩ := z1
  have a1 := g1.2.1
  have a2 := g1.2.2
  have a3 := G1.1
  have a4 := G1.2
  refine W.cs (cells' := jC h1' + jC h2) (slots' := jZ h1' + jZ h2) (by omega) (by omega) ?_
  refine lv_aload_n C0.1 C0.2.1 (dkL_ok d2) rfl (lv_at hl 1 rfl) ?_
  refine hld _ _ _ _ _ X1.S ?_
  refine law_d C0 X1 w2 c2 (fun x' h' z => ?_) hl.1 (Nat.le_of_ble_eq_true rfl) d3 (fun x2 h2' H2 locs2 z2 g2 X2 => ?_)
  · have g1 := z.2.2.1
    have g2 := z.2.2.2
    omega
  obtain ⟨rfl, r2, e1, e2⟩ := z2
  refine W.cs (cells' := jC h1' + jC h2') (slots' := jZ h1' + jZ h2') (by omega) (by omega) ?_
  refine lv_icmp_eq (tgt := 733) C0.1 C0.2.1 (dkL_ok d4) (by rw [Int.ofNat_eq_natCast]; omega) (fun _ => ?_) (fun z => absurd rfl z)
  exact kk S' h1' h2' H2 locs2 V' r1 r2 X2 G1 e1 e2
theorem law_case (C0 : lw_At p s m meth c b L xs) (X : LX D s q1 q2 h1 h2 H locs) (hL : L ≤ 3072) (hi : i + 6 ≤ L) (hb1 : jC h1 ≤ 20000) (hb2 : jZ h1 ≤ 100000) (hb3 : jC h2 ≤ 29) (hb4 : jZ h2 ≤ 20000) (hl : lv_has ls 4 [(3, .int (nI i)), (2, .ref q2), (1, .ref q1), (0, .ref b)]) {S : Sta} {y1 y2 n idx1 idx2 : Nat} (ck : ckCase pc n idx1 idx2 = true) (w1 : OkV y1 10 n idx1) (w2 : OkV y2 11 n idx2) (h5 : n ≤ 5) (hB : Bo S h1 h2 y1 y2 (asL xs i n)) (kk : NxL p l e s m below meth c Qw b q1 q2 D ls h1 h2) : W p l e room_1 s m #[Value.ref b] below meth c H locs (jC h1 + jC h2) (jZ h1 + jZ h2) Qw (F0 m pc ls []) := by
  unfold ckCase at ck
  simp only [Bool.and_eq_true] at ck
  obtain ⟨⟨⟨⟨⟨⟨d0, d1⟩, d2⟩, d3⟩, d4⟩, d5⟩, d6⟩ := ck
  refine lv_aload_n C0.1 C0.2.1 (dkL_ok d0) rfl (lv_at hl 2 rfl) ?_
  refine law_args C0 X.S hL hi (k0 := 0) hl n (by omega) d1 ?_
  rw [show pc + 4 + 5 * n = pc + 1 + 5 * n + 3 by omega] at d3
  rw [show pc + 8 + 10 * n = pc + 5 + 10 * n + 3 by omega] at d6
  refine law_both (as := asL xs i n) (pc2 := pc + 5 + 10 * n) C0 X hb1 hb2 hb3 hb4 hl w1 w2 (asL_len xs i n) hB d2 d3 (fun x H locs cells slots hS k2 => ?_) d5 d6 kk
  rw [show pc + 1 + 5 * n + 4 = pc + 5 + 5 * n by omega]
  refine law_args C0 hS hL hi (k0 := 0) hl n (by omega) d4 ?_
  rw [show pc + 5 + 5 * n + 5 * n = pc + 5 + 10 * n by omega]
  exact k2
theorem law_person (C0 : lw_At p s m meth c b L xs) (X : LX D s q1 q2 h1 h2 H locs) (hL : L ≤ 3072) (hi : i + 6 ≤ L) (hb1 : jC h1 ≤ 20000) (hb2 : jZ h1 ≤ 100000) (hb3 : jC h2 ≤ 29) (hb4 : jZ h2 ≤ 20000) (hl : lv_has ls 4 [(3, .int (nI i)), (2, .ref q2), (1, .ref q1), (0, .ref b)]) {S : Sta} (V : StV S) (R1 : RepC S h1) (R2 : RepR S h2) (kk : NxL p l e s m below meth c Qw b q1 q2 D ls h1 h2) : W p l e room_1 s m #[Value.ref b] below meth c H locs (jC h1 + jC h2) (jZ h1 + jZ h2) Qw (F0 m 575 ls []) := by
  obtain ⟨d0, d1, d2, d3, d4, d5, d6, d7, d8⟩ := k_person
  refine lv_aload_n C0.1 C0.2.1 (dkL_ok d0) rfl (lv_at hl 2 rfl) ?_
  refine law_bool C0 X.S hL hi hl d1 ?_
  refine law_args C0 X.S hL hi (k0 := 1) hl 3 (by omega) d2 ?_
  refine law_both (as := [bi (decide (¬ xs (i + 1) = 0)), xs (i + 1 + 0 + 1), xs (i + 1 + 1 + 1), xs (i + 1 + 2 + 1)]) (pc := 604) (pc2 := 636) C0 X hb1 hb2 hb3 hb4 hl w_109 w_205 rfl (b_person V R1 R2 _ _ _ _) d3 d4 (fun x H locs cells slots hS k2 => ?_) d7 d8 kk
  refine law_bool C0 hS hL hi hl d5 ?_
  exact law_args C0 hS hL hi (k0 := 1) hl 3 (by omega) d6 k2
end LAWC
