/-! the law's loop, and the law from its entry -/
theorem lt_sub6 {L i : Nat} (hL : L ≤ 3072) (hi : i < 4000) (h : L < i + 6) : nI L - 6 < nI i := by
  rcases Nat.lt_or_ge L 6 with z | z
  · rw [Int32.lt_iff_toInt_lt, nI_toInt (by omega)]
    have : (nI L - 6).toInt < 0 := by
      rcases (show L = 0 ∨ L = 1 ∨ L = 2 ∨ L = 3 ∨ L = 4 ∨ L = 5 by omega) with rfl | rfl | rfl | rfl | rfl | rfl <;> decide +kernel
    omega
  · obtain ⟨k, rfl⟩ : ∃ k, L = k + 6 := ⟨L - 6, by omega⟩
    rw [show nI (k + 6) - 6 = nI k from nI_sub (a := k) (b := 6)]
    exact nI_lt (by omega) (by omega)
section LAWL
variable {p : Program} {l : Launch} {e : Env} {s : State} {m : MethodId} {below : List Frame} {meth : Method} {c : Code} {H : Heap} {locs : List Loc} {Qw : State → Prop}
variable {b L q1 q2 : Nat} {xs : Nat → Int32} {D : va_G} {h1 h2 : Hp} {ls : Array Slot} {i : Nat}
/-- the law's end, with true -/
theorem law_end (C0 : lw_At p s m meth c b L xs) (X : LX D s q1 q2 h1 h2 H locs) (hb1 : jC h1 ≤ 20000) (hb2 : jZ h1 ≤ 100000) (hb3 : jC h2 ≤ 29) (hb4 : jZ h2 ≤ 20000) : W p l e room_1 s m #[Value.ref b] below meth c H locs (jC h1 + jC h2) (jZ h1 + jZ h2) (lw_Z below #[Value.ref b] s) (F0 m 739 ls []) := by
  have hS := X.S
  obtain ⟨hx, hb, hr, hml, hown, hts, hX, hbl, hlocks, hgv⟩ := C0
  refine lv_iconst (v := 1) hx hb (dkL_ok k_loop.2.2.2.2.2.2.2.2.2.2.2.2.2.2.1) rfl ?_
  refine va_forget hS.2.2 ?_
  refine W.widen (k := 600000) (n := 7302250) (by omega) (by omega) ?_
  exact lw_ret hx hb hr hlocks (dkL_ok k_loop.2.2.2.2.2.2.2.2.2.2.2.2.2.2.2)
/-- the loop's head -/
theorem law_head (C0 : lw_At p s m meth c b L xs) (X : LX D s q1 q2 h1 h2 H locs) (hL : L ≤ 3072) (hi : i < 4000) (hb1 : jC h1 ≤ 20000) (hb2 : jZ h1 ≤ 100000) (hb3 : jC h2 ≤ 29) (hb4 : jZ h2 ≤ 20000) (hl : lv_has ls 4 [(3, .int (nI i)), (2, .ref q2), (1, .ref q1), (0, .ref b)])
    (kk : i + 6 ≤ L → W p l e room_1 s m #[Value.ref b] below meth c H locs (jC h1 + jC h2) (jZ h1 + jZ h2) (lw_Z below #[Value.ref b] s) (F0 m 27 ls [])) : W p l e room_1 s m #[Value.ref b] below meth c H locs (jC h1 + jC h2) (jZ h1 + jZ h2) (lw_Z below #[Value.ref b] s) (F0 m 18 ls []) := by
  have hend : W p l e room_1 s m #[Value.ref b] below meth c H locs (jC h1 + jC h2) (jZ h1 + jZ h2) (lw_Z below #[Value.ref b] s) (F0 m 739 ls []) := law_end C0 X hb1 hb2 hb3 hb4
  obtain ⟨hx, hb, hr, hml, hown, hts, hX, hbl, hlocks, hgv⟩ := C0
  obtain ⟨d0, d1, d2, d3, d4, d5, -⟩ := k_loop
  refine lv_iload_n hx hb (dkL_ok d0) rfl (lv_at hl 0 rfl) ?_
  refine lv_aload_n hx hb (dkL_ok d1) rfl (lv_at hl 3 rfl) ?_
  refine va_slen hx hb hX hbl (Nat.not_le.mpr hbl) X.S (dkL_ok d2) ?_
  refine lv_bipush (v := 6) hx hb (dkL_ok d3) (by decide +kernel) ?_
  refine lv_isub hx hb (dkL_ok d4) ?_
  refine lv_icmp_gt (tgt := 739) hx hb (dkL_ok d5) (by decide) (fun _ => hend) (fun z => kk ?_)
  rcases Nat.lt_or_ge L (i + 6) with q | q
  · exact absurd (lt_sub6 hL hi q) z
  · exact q
/-- the switch over the seventeen calls -/
theorem law_switch (C0 : lw_At p s m meth c b L xs) (X : LX D s q1 q2 h1 h2 H locs) (hL : L ≤ 3072) (hi : i + 6 ≤ L) (hb1 : jC h1 ≤ 20000) (hb2 : jZ h1 ≤ 100000) (hb3 : jC h2 ≤ 29) (hb4 : jZ h2 ≤ 20000) (hl : lv_has ls 4 [(3, .int (nI i)), (2, .ref q2), (1, .ref q1), (0, .ref b)]) {S : Sta} (V : StV S) (R1 : RepC S h1) (R2 : RepR S h2) (kk : NxL p l e s m below meth c Qw b q1 q2 D ls h1 h2) : W p l e room_1 s m #[Value.ref b] below meth c H locs (jC h1 + jC h2) (jZ h1 + jZ h2) Qw (F0 m 27 ls []) := by
  refine lv_aload_n C0.1 C0.2.1 (dkL_ok k_loop.2.2.2.2.2.2.1) rfl (lv_at hl 3 rfl) ?_
  refine lv_iload_n C0.1 C0.2.1 (dkL_ok k_loop.2.2.2.2.2.2.2.1) rfl (lv_at hl 0 rfl) ?_
  refine va_sld C0.1 C0.2.1 C0.2.2.2.2.2.2.1 C0.2.2.2.2.2.2.2.1 (Nat.not_le.mpr C0.2.2.2.2.2.2.2.1) X.S (vp_in_nI (by omega) (by omega)) (dkL_ok k_loop.2.2.2.2.2.2.2.2.1) ?_
  refine lv_bipush (v := 31) C0.1 C0.2.1 (dkL_ok k_loop.2.2.2.2.2.2.2.2.2.1) (by decide +kernel) ?_
  refine lv_iand C0.1 C0.2.1 (dkL_ok k_loop.2.2.2.2.2.2.2.2.2.2.1) ?_
  generalize xs (nI i).toNatClampNeg &&& 31 = x
  by_cases hin : x.toInt < 0 ∨ 16 < x.toInt
  · exact lv_tableOut (tgt := 733) C0.1 C0.2.1 (dkL_ok k_loop.2.2.2.2.2.2.2.2.2.2.2.1) hin (by decide) (kk S h1 h2 H locs V R1 R2 X (Gr.rf h1) rfl rfl)
  · have hk17 : (x.toInt - 0).toNat < 17 := by omega
    rcases (show (x.toInt - 0).toNat = 0 ∨ (x.toInt - 0).toNat = 1 ∨ (x.toInt - 0).toNat = 2 ∨ (x.toInt - 0).toNat = 3 ∨ (x.toInt - 0).toNat = 4 ∨ (x.toInt - 0).toNat = 5 ∨ (x.toInt - 0).toNat = 6 ∨ (x.toInt - 0).toNat = 7 ∨ (x.toInt - 0).toNat = 8 ∨ (x.toInt - 0).toNat = 9 ∨ (x.toInt - 0).toNat = 10 ∨ (x.toInt - 0).toNat = 11 ∨ (x.toInt - 0).toNat = 12 ∨ (x.toInt - 0).toNat = 13 ∨ (x.toInt - 0).toNat = 14 ∨ (x.toInt - 0).toNat = 15 ∨ (x.toInt - 0).toNat = 16 by omega) with hk | hk | hk | hk | hk | hk | hk | hk | hk | hk | hk | hk | hk | hk | hk | hk | hk
    · exact lv_tableIn (off := 83) (tgt := 116) C0.1 C0.2.1 (dkL_ok k_loop.2.2.2.2.2.2.2.2.2.2.2.1) (by omega) (by omega) (by rw [hk]; rfl) (by decide) (law_case C0 X hL hi (by omega) (by omega) hb3 hb4 hl k_feed w_87 w_118 (by decide) (b_feed V R1 R2 _ _ _ _ _) kk)
    · exact lv_tableIn (off := 146) (tgt := 179) C0.1 C0.2.1 (dkL_ok k_loop.2.2.2.2.2.2.2.2.2.2.2.1) (by omega) (by omega) (by rw [hk]; rfl) (by decide) (law_case C0 X hL hi (by omega) (by omega) hb3 hb4 hl k_read w_89 w_120 (by decide) (b_read V R1 R2 _) kk)
    · exact lv_tableIn (off := 169) (tgt := 202) C0.1 C0.2.1 (dkL_ok k_loop.2.2.2.2.2.2.2.2.2.2.2.1) (by omega) (by omega) (by rw [hk]; rfl) (by decide) (law_case C0 X hL hi (by omega) (by omega) hb3 hb4 hl k_pack w_93 w_174 (by decide) (b_pack V R1 R2 _ _) kk)
    · exact lv_tableIn (off := 202) (tgt := 235) C0.1 C0.2.1 (dkL_ok k_loop.2.2.2.2.2.2.2.2.2.2.2.1) (by omega) (by omega) (by rw [hk]; rfl) (by decide) (law_case C0 X hL hi (by omega) (by omega) hb3 hb4 hl k_write w_95 w_158 (by decide) (b_write V R1 R2 _) kk)
    · exact lv_tableIn (off := 225) (tgt := 258) C0.1 C0.2.1 (dkL_ok k_loop.2.2.2.2.2.2.2.2.2.2.2.1) (by omega) (by omega) (by rw [hk]; rfl) (by decide) (law_case C0 X hL hi (by omega) (by omega) hb3 hb4 hl k_octet w_97 w_167 (by decide) (b_octet V R1 R2 _) kk)
    · exact lv_tableIn (off := 248) (tgt := 281) C0.1 C0.2.1 (dkL_ok k_loop.2.2.2.2.2.2.2.2.2.2.2.1) (by omega) (by omega) (by rw [hk]; rfl) (by decide) (law_case C0 X hL hi (by omega) (by omega) hb3 hb4 hl k_look w_98 w_168 (by decide) (b_look V R1 R2 _ _) kk)
    · exact lv_tableIn (off := 281) (tgt := 314) C0.1 C0.2.1 (dkL_ok k_loop.2.2.2.2.2.2.2.2.2.2.2.1) (by omega) (by omega) (by rw [hk]; rfl) (by decide) (law_case C0 X hL hi (by omega) (by omega) hb3 hb4 hl k_judge w_99 w_185 (by decide) (b_judge V R1 R2 _ _ _) kk)
    · exact lv_tableIn (off := 324) (tgt := 357) C0.1 C0.2.1 (dkL_ok k_loop.2.2.2.2.2.2.2.2.2.2.2.1) (by omega) (by omega) (by rw [hk]; rfl) (by decide) (law_case C0 X hL hi (by omega) (by omega) hb3 hb4 hl k_part w_103 w_193 (by decide) (b_part V R1 R2 _ _ _ _) kk)
    · exact lv_tableIn (off := 377) (tgt := 410) C0.1 C0.2.1 (dkL_ok k_loop.2.2.2.2.2.2.2.2.2.2.2.1) (by omega) (by omega) (by rw [hk]; rfl) (by decide) (law_case C0 X hL hi (by omega) (by omega) hb3 hb4 hl k_chosen w_104 w_183 (by decide) (b_chosen V R1 R2 _ _ _) kk)
    · exact lv_tableIn (off := 420) (tgt := 453) C0.1 C0.2.1 (dkL_ok k_loop.2.2.2.2.2.2.2.2.2.2.2.1) (by omega) (by omega) (by rw [hk]; rfl) (by decide) (law_case C0 X hL hi (by omega) (by omega) hb3 hb4 hl k_ran w_105 w_194 (by decide) (b_ran V R1 R2) kk)
    · exact lv_tableIn (off := 433) (tgt := 466) C0.1 C0.2.1 (dkL_ok k_loop.2.2.2.2.2.2.2.2.2.2.2.1) (by omega) (by omega) (by rw [hk]; rfl) (by decide) (law_case C0 X hL hi (by omega) (by omega) hb3 hb4 hl k_point w_106 w_195 (by decide) (b_point V R1 R2 _ _ _) kk)
    · exact lv_tableIn (off := 476) (tgt := 509) C0.1 C0.2.1 (dkL_ok k_loop.2.2.2.2.2.2.2.2.2.2.2.1) (by omega) (by omega) (by rw [hk]; rfl) (by decide) (law_case C0 X hL hi (by omega) (by omega) hb3 hb4 hl k_points w_107 w_204 (by decide) (b_points V R1 R2 _ _) kk)
    · exact lv_tableIn (off := 509) (tgt := 542) C0.1 C0.2.1 (dkL_ok k_loop.2.2.2.2.2.2.2.2.2.2.2.1) (by omega) (by omega) (by rw [hk]; rfl) (by decide) (law_case C0 X hL hi (by omega) (by omega) hb3 hb4 hl k_differ w_108 w_173 (by decide) (b_differ V R1 R2 _ _) kk)
    · exact lv_tableIn (off := 542) (tgt := 575) C0.1 C0.2.1 (dkL_ok k_loop.2.2.2.2.2.2.2.2.2.2.2.1) (by omega) (by omega) (by rw [hk]; rfl) (by decide) (law_person C0 X hL hi (by omega) (by omega) hb3 hb4 hl V R1 R2 kk)
    · exact lv_tableIn (off := 611) (tgt := 644) C0.1 C0.2.1 (dkL_ok k_loop.2.2.2.2.2.2.2.2.2.2.2.1) (by omega) (by omega) (by rw [hk]; rfl) (by decide) (law_case C0 X hL hi (by omega) (by omega) hb3 hb4 hl k_marry w_110 w_207 (by decide) (b_marry V R1 R2 _ _) kk)
    · exact lv_tableIn (off := 644) (tgt := 677) C0.1 C0.2.1 (dkL_ok k_loop.2.2.2.2.2.2.2.2.2.2.2.1) (by omega) (by omega) (by rw [hk]; rfl) (by decide) (law_case C0 X hL hi (by omega) (by omega) hb3 hb4 hl k_family w_111 w_208 (by decide) (b_family V R1 R2 _ _) kk)
    · exact lv_tableIn (off := 677) (tgt := 710) C0.1 C0.2.1 (dkL_ok k_loop.2.2.2.2.2.2.2.2.2.2.2.1) (by omega) (by omega) (by rw [hk]; rfl) (by decide) (law_case C0 X hL hi (by omega) (by omega) hb3 hb4 hl k_count w_112 w_212 (by decide) (b_count V R1 R2 _) kk)
theorem law_loop (C0 : lw_At p s m meth c b L xs) (hL : L ≤ 3072) : ∀ (f j : Nat) (S : Sta) (h1 h2 : Hp) (H : Heap) (locs : List Loc) (ls : Array Slot), L ≤ 6 * (j + f) → j ≤ 513 → StV S → RepC S h1 → RepR S h2 → LX D s q1 q2 h1 h2 H locs → jC h1 ≤ 100 + 20 * j → jZ h1 ≤ 10000 + 100 * j → jC h2 ≤ 29 → jZ h2 ≤ 20000 → lv_has ls 4 [(3, .int (nI (6 * j))), (2, .ref q2), (1, .ref q1), (0, .ref b)] → W p l e room_1 s m #[Value.ref b] below meth c H locs (jC h1 + jC h2) (jZ h1 + jZ h2) (lw_Z below #[Value.ref b] s) (F0 m 18 ls [])
  | 0, j, S, h1, h2, H, locs, ls, hf, hj, V, R1, R2, X, hb1, hb2, hb3, hb4, hl => law_head C0 X hL (by omega) (by omega) (by omega) hb3 hb4 hl (fun z => absurd z (by omega))
  | f + 1, j, S, h1, h2, H, locs, ls, hf, hj, V, R1, R2, X, hb1, hb2, hb3, hb4, hl => by
    refine law_head C0 X hL (by omega) (by omega) (by omega) hb3 hb4 hl (fun hi => ?_)
    refine law_switch C0 X hL hi (by omega) (by omega) hb3 hb4 hl V R1 R2 ?_
    intro S' h1' h2' H' locs' V' r1 r2 X' G e1 e2
    have g1 := G.1
    have g2 := G.2
    refine lv_iinc (v := nI (6 * (j + 1))) (lv' := [(3, .int (nI (6 * (j + 1)))), (2, .ref q2), (1, .ref q1), (0, .ref b)]) C0.1 C0.2.1 (dkL_ok k_loop.2.2.2.2.2.2.2.2.2.2.2.2.1) hl (k := 0) rfl (by rw [show 6 * (j + 1) = 6 * j + 6 by omega, ← nI_add]; rfl) (by decide) rfl (fun ls' hl' => ?_)
    refine lv_goto (tgt := 18) C0.1 C0.2.1 (dkL_ok k_loop.2.2.2.2.2.2.2.2.2.2.2.2.2.1) (by decide) ?_
    exact law_loop C0 hL f (j + 1) S' h1' h2' H' locs' ls' (by omega) (by omega) V' r1 r2 X' (by omega) (by omega) (by omega) (by omega) hl'
theorem hZ_n {t : Nat} (h : hrg t = true) : jN hZ t = 0 := by
  unfold hrg at h
  simp only [Bool.or_eq_true, Bool.and_eq_true, Nat.blt_eq, Nat.ble_eq] at h
  show (if t = 40 then 34 else if t = 41 then 34 else if t = 42 then 3 else 0) = 0
  rw [if_neg (by omega), if_neg (by omega), if_neg (by omega)]
theorem rel_0 (φ : Nat → Nat → Nat) : Rel hZ [] [] φ := by
  refine ⟨fun t a ht ha => ?_, fun t a t' a' ht ht' ha ha' _ => ?_, fun t a k ht hk ha => ?_, fun t a k h1 h2 ha => ?_, rfl, rfl, rfl⟩
  · rw [hZ_n ht] at ha; exact absurd ha (Nat.not_lt_zero _)
  · rw [hZ_n ht] at ha; exact absurd ha (Nat.not_lt_zero _)
  · rw [hZ_n (by unfold hrg; simp [Nat.blt_eq, ht])] at ha; exact absurd ha (Nat.not_lt_zero _)
  · rw [hZ_n (hrg_ref h1 h2)] at ha; exact absurd ha (Nat.not_lt_zero _)
theorem known_0 (hts : ∀ w ∈ lw_good, w.before #[Value.ref b] s = true) : ∃ D : va_G, va_K D clsL [] s := by
  have h : ∀ t : Nat, ∃ q : ClassId × (Nat → Nat), t < 12 → u_Kn s (cnm t) (TRs t) (nfl t) q.1 q.2 := by
    intro t
    by_cases ht : t < 12
    · have hi := List.all_eq_true.mp chkI_ok t (List.mem_range.mpr ht)
      unfold chkI at hi
      simp only [Bool.and_eq_true] at hi
      obtain ⟨c, i, hk⟩ := u_known (C := cnm t) (T := TRs t) (N := nfl t) (n := nfl t) hts (lay_in ht) (hts _ (wOK_mem hi.1))
      exact ⟨(c, i), fun _ => hk⟩
    · exact ⟨(0, fun _ => 0), fun z => absurd z ht⟩
  obtain ⟨q, hq⟩ := Classical.axiomOfChoice h
  refine ⟨(fun t => (q t).1, fun t => (q t).2), fun c r hr => ?_, fun k r hr => by cases hr⟩
  have hlt : c < 12 := (List.getElem?_eq_some_iff.mp hr).1
  rw [cls_at c hlt] at hr
  cases hr
  exact hq c hlt
end LAWL
