theorem rf_or (o : Option Nat) : va_rf o = .null ∨ ∃ a, va_rf o = .ref a := by
  cases o
  · exact Or.inl rfl
  · exact Or.inr ⟨_, rfl⟩
section WALK2
variable {p : Program} {l : Launch} {e : Env} {s : State} {m : MethodId} {args : Array Value} {below : List Frame} {meth : Method} {c : Code} {A : Nat → Prop} {D : va_G} {R : Room} {y : Nat} {h0 h1 : Hp} {φ0 : Nat → Nat → Nat}
theorem chkM_parts {y : Nat} (hy : y < 239) : Cond.initialized (mNm y).cls ∈ lw_good ∧ (mKi y = 0 → Cond.static (mNm y) ∈ lw_good) ∧ (mKi y = 1 → Cond.instanceMethod (mNm y) ∈ lw_good ∧ Cond.selects (mNm y).cls (mNm y) (mNm y) ∈ lw_good ∧ (mOw y < 12 ∨ mOw y = 40)) ∧ (mKi y = 2 → Cond.instanceMethod (mNm y) ∈ lw_good ∧ (mNm y).name = "<init>" ∧ mRt y = none ∧ mOw y < 12) ∧ rOk y = true ∧ mLo y ≤ 40 ∧ plainName (mNm y).cls = true ∧ ((mNm y).cls ≠ "java/lang/invoke/MethodHandle" ∧ (mNm y).cls ≠ "java/lang/invoke/VarHandle" ∧ (parseMethodDescriptor (mNm y).desc).map (fun d => d.parameters.length) = some (mPa y)) ∧ cnm (mOw y) = (mNm y).cls := by
  have h := chkM_ok y hy
  unfold chkM at h
  simp only [Bool.and_eq_true, decide_eq_true_eq, Nat.ble_eq] at h
  obtain ⟨⟨⟨⟨⟨⟨⟨⟨q1, q2⟩, q3⟩, q4⟩, q5⟩, q6⟩, q7⟩, q8⟩, q9⟩ := h
  refine ⟨wOK_mem q1, fun e => ?_, fun e => ?_, fun e => ?_, q3, q4, q5, ⟨q6, q7, q8⟩, q9⟩
  · rw [e] at q2; exact wOK_mem q2
  · rw [e] at q2
    simp only [Bool.and_eq_true, Bool.or_eq_true, Nat.blt_eq, beqT] at q2
    exact ⟨wOK_mem q2.1.1, wOK_mem q2.1.2, q2.2⟩
  · rw [e] at q2
    simp only [Bool.and_eq_true, decide_eq_true_eq, Nat.blt_eq] at q2
    exact ⟨wOK_mem q2.1.1.1, q2.1.1.2, q2.1.2, q2.2⟩
set_option maxHeartbeats 8000000 in
theorem walk {d : Nat} (hy : y < 239) (ih : SoundAt l d) (hx : p.tables.exec = Jvm.exec) (hb : c.code = mBy y) (hr : meth.sig.returnType = mRt y) (hml : c.maxLocals = mLo y) (hown : s.vm.findClass (cnm (mOw y)) = some m.cls) (hts : ∀ w ∈ lw_good, w.before args s = true) (hlocks : meth.locks = false) (hini : mKi y = 2 → meth.name = "<init>") (hA : ∀ q, s.heap.size ≤ q → A q) {rv : Option AV} (hRf : R.frames = d + 1 + 2) (hRl : R.locals = 64 * (d + 1) + 192) (hRc : R.cells = jC h1 - jC h0) (hRz : R.slots = jZ h1 - jZ h0) {Qc : Array Value → State → Outcome → State → Prop}
    (hQc : ∀ (t : State) (ws : va_W) (tys : List (ClassId × FieldType)) (φ : Nat → Nat → Nat) (H : Heap) (locs : List Loc), t.heap = H → s.WarmedH t.vm → Wld D A s h1 φ ws tys H locs → (∀ t a, a < jN h0 t → φ t a = φ0 t a) → (∀ v, rv = some v → vok h1 v) → Qc args s (.returned (rv.map (trv φ))) t) : Cl (Call d) y (fun v h' => v = rv ∧ h' = h1) (SP p l e s m args below meth c A D R (MQ below Qc args s (jC h1 - jC h0) (jZ h1 - jZ h0) A) y h0 φ0 h1) := by
  intro pc ls st hh hF
  have hle1 : hle hh h1 := by
    rcases FS_ex hF with ⟨_, _, _, _, l1, p1, _⟩ | ⟨v, p1, _⟩ | ⟨y', as', r', p1, _⟩
    · exact l1.tr p1.1
    · rw [p1.2]; exact hle.rf _
    · obtain ⟨v1, h2, l1, q1, -⟩ := Call_det d y' as' hh _ p1
      exact l1.tr q1.1
  refine ⟨hle1, ?_⟩
  intro ws tys φ H locs L hw hle0 hext hvl hvs hlen hl
  unfold FS at hF
  split at hF
  rotate_left
  · exact hF.elim
  rename_i i hi
  have hck := dec_ex hy hi
  unfold FI at hF
  split at hF
  · rename_i q hq
    have hdg := dec_at hck (by rintro d lo hi os rfl; cases hq) (by rintro d os rfl; cases hq)
    obtain ⟨v1, v2⟩ := step1_vok hw.1.2.2.2.2.1 hw.1.2.2.2.2.2.2 hq hvl hvs
    exact snd1 hx hb hown hts hw.2.2.2.2.1 hw.2.2.2.2.2 hdg hq hl hlen (fun L' hl' hn' => hF.2 ws tys φ H locs L' hw hle0 hext v1 v2 hn' hl')
  rename_i hq0
  split at hF
  · rename_i q hb1
    have hdg := dec_at hck (by rintro d lo hi os rfl; cases hb1) (by rintro d os rfl; cases hb1)
    have v2 := br1_vok hb1 hvs
    exact snd2 hx hb hw.1 hvs hdg hb1 (fun c => (hF.1 c).2 ws tys φ H locs L hw hle0 hext hvl v2 hlen hl) (fun c => (hF.2 c).2 ws tys φ H locs L hw hle0 hext hvl v2 hlen hl)
  rename_i hb0
  clear hq0 hb0
  have hbc := hle1.2.1
  have hbz := hle1.2.2
  have h0c := hle0.2.1
  have h0z := hle0.2.2
  have hsize : L.size = mLo y := hl.1
  cases i
  case idiv =>
    have hdg := dec_at hck (by rintro d lo hi os z; cases z) (by rintro d os z; cases z)
    dsimp only [FH] at hF
    split at hF
    · exact lv_idiv hx hb hdg hF.1 (hF.2.2 ws tys φ H locs L hw hle0 hext hvl (vok_cons trivial (vok_tl (vok_tl hvs))) hlen hl)
    · exact hF.elim
  case irem =>
    have hdg := dec_at hck (by rintro d lo hi os z; cases z) (by rintro d os z; cases z)
    dsimp only [FH] at hF
    split at hF
    · exact lv_irem hx hb hdg hF.1 (hF.2.2 ws tys φ H locs L hw hle0 hext hvl (vok_cons trivial (vok_tl (vok_tl hvs))) hlen hl)
    · exact hF.elim
  case tableswitch dd lo hi2 os =>
    dsimp only [FH] at hF
    split at hF
    · rename_i x r
      unfold chkD at hck
      split at hck
      · rename_i i' n hd
        simp only [Bool.and_eq_true, decide_eq_true_eq] at hck
        obtain ⟨rfl, ⟨c1, c2⟩, c3⟩ := hck
        have hsz : (os.toList.length : Int) = os.size := by simp
        obtain ⟨t1, t2⟩ := swl_tab os.toList lo c2 (by rw [hsz]; omega) hF
        by_cases hin : x.toInt < lo ∨ hi2 < x.toInt
        · obtain ⟨t, ht, hs⟩ := t2 (by rw [hsz]; omega)
          exact lv_tableOut hx hb hd hin (jto_ex ht) (hs.2 ws tys φ H locs L hw hle0 hext hvl (vok_tl hvs) hlen hl)
        · have hj : (x.toInt - lo).toNat < os.size := by omega
          have ho : os[(x.toInt - lo).toNat]? = some os[(x.toInt - lo).toNat] := Array.getElem?_eq_getElem hj
          obtain ⟨t, ht, hs⟩ := t1 (x.toInt - lo).toNat _ (by rw [Array.getElem?_toList]; exact ho) (by omega)
          exact lv_tableIn hx hb hd (by omega) (by omega) ho (jto_ex ht) (hs.2 ws tys φ H locs L hw hle0 hext hvl (vok_tl hvs) hlen hl)
      · cases hck
    · exact hF.elim
  case lookupswitch dd os =>
    dsimp only [FH] at hF
    split at hF
    · rename_i x r
      unfold chkD at hck
      split at hck
      · rename_i i' n hd
        simp only [Bool.and_eq_true, decide_eq_true_eq] at hck
        obtain ⟨rfl, c1, c2⟩ := hck
        obtain ⟨t, ht, hs⟩ := swl_look os.toList c1 hF
        exact lv_lookup hx hb hd c2 rfl (jto_ex ht) (hs.2 ws tys φ H locs L hw hle0 hext hvl (vok_tl hvs) hlen hl)
      · cases hck
    · exact hF.elim
  case getfield idx =>
    have hdg := dec_at hck (by rintro d lo hi os z; cases z) (by rintro d os z; cases z)
    dsimp only [FH] at hF
    split at hF
    · rename_i ci k ns t o r hf
      obtain ⟨rfl, h2⟩ := rg_ex hF
      obtain ⟨a, rfl, h3⟩ := dr_ex h2
      have ha : a < jN hh t := hvs _ List.mem_cons_self
      by_cases ht : t = 40
      · subst ht
        refine s_gets hx hb hown hts hw hf ha hdg (h3.2 ws tys φ H locs L hw hle0 hext hvl (vok_cons ?_ (vok_tl hvs)) hlen hl)
        show vok hh (gfs a k)
        unfold gfs
        split
        · show a < jN hh 41
          rw [hw.1.2.2.2.2.2.1, ← hw.1.2.2.2.2.1]; exact ha
        · trivial
      · rw [gfa_ne ht] at h3
        refine s_getf hx hb hown hts hw hf ht ha hdg (h3.2 ws tys φ H locs L hw hle0 hext hvl (vok_cons ?_ (vok_tl hvs)) hlen hl)
        rcases fld_ex hf with ⟨z, -⟩ | ⟨z1, z2, -⟩
        · exact absurd z ht
        · exact hw.1.2.2.1 t a k z1 z2 ha
    · exact hF.elim
  case putfield idx =>
    have hdg := dec_at hck (by rintro d lo hi os z; cases z) (by rintro d os z; cases z)
    dsimp only [FH] at hF
    split at hF
    · rename_i ci k ns v t o r hf
      obtain ⟨rfl, h2⟩ := rg_ex hF
      obtain ⟨a, rfl, h3⟩ := dr_ex h2
      have ha : a < jN hh t := hvs _ (List.mem_cons_of_mem _ List.mem_cons_self)
      have hfin : (TRs t k).2.2.2 = true → ns = 0 ∧ meth.name = "<init>" ∧ (TRs t k).1 = cnm (mOw y) := by
        intro hfb
        unfold chkD at hck
        split at hck
        · simp only [Bool.and_eq_true] at hck
          have h5 := hck.2.2
          rw [hf] at h5
          simp only [hfb, Bool.not_true, Bool.false_or, Bool.and_eq_true, decide_eq_true_eq, beqT] at h5
          exact ⟨h5.1.2, hini h5.1.1, h5.2⟩
        · cases hck
      rcases fld_ex hf with ⟨rfl, -⟩ | ⟨h12, hk, -⟩
      · exact (put40 hy hi hf).elim
      · have ht40 : t ≠ 40 := by omega
        have hkok := kOk_at h12 hk
        rcases pf_cases h3 with ⟨x, rfl, e0, hs⟩ | ⟨x, rfl, e0, e1, hs⟩ | ⟨x, rfl, e0, hs⟩ | ⟨n, t', o, rfl, e0, e1, hs⟩
        · have hty : tyRs t k = .int := by
            unfold kOk at hkok; rw [e0] at hkok; simpa using hkok
          refine s_putf (v := .inl x) (h' := wI hh t a k x) hx hb hown hts hw hf ht40 ha (by rw [hty]; rfl) (by rw [hty]; rfl) hfin (fun i cA z1 z2 hi2 => hw.1.putI x z1 z2 ha (Or.inl e0) hi2) hdg (fun ws' H1 locs1 hw' => ?_)
          exact hs.2 ws' tys φ H1 locs1 L hw' (hle0.tr (hle.wI hh t a k x)) hext (vok_wI hvl) (vok_wI (vok_tl (vok_tl hvs))) hlen hl
        · have hty : tyRs t k = .boolean := by
            unfold kOk at hkok; rw [e0] at hkok; simpa using hkok
          refine s_putf (v := .inl x) (h' := wI hh t a k x) hx hb hown hts hw hf ht40 ha (by rw [hty]; rcases e1 with rfl | rfl <;> rfl) (by rw [hty]; rcases e1 with rfl | rfl <;> rfl) hfin (fun i cA z1 z2 hi2 => hw.1.putI x z1 z2 ha (Or.inr e0) hi2) hdg (fun ws' H1 locs1 hw' => ?_)
          exact hs.2 ws' tys φ H1 locs1 L hw' (hle0.tr (hle.wI hh t a k x)) hext (vok_wI hvl) (vok_wI (vok_tl (vok_tl hvs))) hlen hl
        · have hty : tyRs t k = .long := by
            unfold kOk at hkok; rw [e0] at hkok; simpa using hkok
          refine s_putf (v := .inr (.inl x)) (h' := wL hh t a k x) hx hb hown hts hw hf ht40 ha (by rw [hty]; rfl) (by rw [hty]; rfl) hfin (fun i cA z1 z2 hi2 => hw.1.putL x z1 z2 ha e0 hi2) hdg (fun ws' H1 locs1 hw' => ?_)
          exact hs.2 ws' tys φ H1 locs1 L hw' (hle0.tr (hle.wL hh t a k x)) hext (vok_wL hvl) (vok_wL (vok_tl (vok_tl hvs))) hlen hl
        · have hty : (∃ C, tyRs t k = .object C) ∨ ∃ C, tyRs t k = .array C := by
            unfold kOk at hkok; rw [e0] at hkok
            simp only at hkok
            split at hkok
            · rename_i C e2; exact Or.inl ⟨C, e2⟩
            · rename_i C e2; exact Or.inr ⟨C, e2⟩
            · cases hkok
          have hval : vok hh (vR n o) := by
            rcases e1 with rfl | rfl
            · exact hvs _ List.mem_cons_self
            · trivial
          have etr : trv φ (.inr (.inr (t', o))) = va_rf (o.map (φ n)) := by
            rcases e1 with rfl | rfl <;> rfl
          refine s_putf (v := .inr (.inr (t', o))) (h' := wR hh t a k o) hx hb hown hts hw hf ht40 ha (by rcases hty with ⟨C, e2⟩ | ⟨C, e2⟩ <;> rw [e2] <;> cases o <;> rfl) (by rcases hty with ⟨C, e2⟩ | ⟨C, e2⟩ <;> rw [e2] <;> cases o <;> rfl) hfin (fun i cA z1 z2 hi2 => by rw [etr]; exact hw.1.putR o z1 z2 ha e0 hval hi2) hdg (fun ws' H1 locs1 hw' => ?_)
          exact hs.2 ws' tys φ H1 locs1 L hw' (hle0.tr (hle.wR hh t a k o)) hext (vok_wR hvl) (vok_wR (vok_tl (vok_tl hvs))) hlen hl
    · exact hF.elim
  case iaload =>
    have hdg := dec_at hck (by rintro d lo hi os z; cases z) (by rintro d os z; cases z)
    dsimp only [FH] at hF
    obtain ⟨j, t, a, r, rfl, hok, h2⟩ := ald_cases hF
    obtain ⟨x, h3, h4⟩ := lda_int h2
    exact s_ald hx hb hw hok (hvs _ (List.mem_cons_of_mem _ List.mem_cons_self)) (Or.inl rfl) hdg (h4 _ (h3.2 ws tys φ H locs L hw hle0 hext hvl (vok_cons trivial (vok_tl (vok_tl hvs))) hlen hl))
  case baload =>
    have hdg := dec_at hck (by rintro d lo hi os z; cases z) (by rintro d os z; cases z)
    dsimp only [FH] at hF
    obtain ⟨j, t, a, r, rfl, hok, h2⟩ := ald_cases hF
    obtain ⟨x, h3, h4⟩ := lda_int h2
    exact s_ald hx hb hw hok (hvs _ (List.mem_cons_of_mem _ List.mem_cons_self)) (Or.inr (Or.inl rfl)) hdg (h4 _ (h3.2 ws tys φ H locs L hw hle0 hext hvl (vok_cons trivial (vok_tl (vok_tl hvs))) hlen hl))
  case caload =>
    have hdg := dec_at hck (by rintro d lo hi os z; cases z) (by rintro d os z; cases z)
    dsimp only [FH] at hF
    obtain ⟨j, t, a, r, rfl, hok, h2⟩ := ald_cases hF
    obtain ⟨x, h3, h4⟩ := lda_int h2
    exact s_ald hx hb hw hok (hvs _ (List.mem_cons_of_mem _ List.mem_cons_self)) (Or.inr (Or.inr rfl)) hdg (h4 _ (h3.2 ws tys φ H locs L hw hle0 hext hvl (vok_cons trivial (vok_tl (vok_tl hvs))) hlen hl))
  case iastore =>
    have hdg := dec_at hck (by rintro d lo hi os z; cases z) (by rintro d os z; cases z)
    dsimp only [FH] at hF
    obtain ⟨x, j, t, a, r, rfl, hok, h2⟩ := ast_cases hF
    obtain ⟨v, h3, h4⟩ := sta_ex h2
    exact s_ast hx hb hw hok (hvs _ (List.mem_cons_of_mem _ (List.mem_cons_of_mem _ List.mem_cons_self))) (Or.inl rfl) hdg (h4 _ (fun ws' H1 locs1 hw' => h3.2 ws' tys φ H1 locs1 L hw' (hle0.tr (hle.wI hh _ _ _ _)) hext (vok_wI hvl) (vok_wI (vok_tl (vok_tl (vok_tl hvs)))) hlen hl))
  case bastore =>
    have hdg := dec_at hck (by rintro d lo hi os z; cases z) (by rintro d os z; cases z)
    dsimp only [FH] at hF
    obtain ⟨x, j, t, a, r, rfl, hok, h2⟩ := ast_cases hF
    obtain ⟨v, h3, h4⟩ := sta_ex h2
    exact s_ast hx hb hw hok (hvs _ (List.mem_cons_of_mem _ (List.mem_cons_of_mem _ List.mem_cons_self))) (Or.inr (Or.inl rfl)) hdg (h4 _ (fun ws' H1 locs1 hw' => h3.2 ws' tys φ H1 locs1 L hw' (hle0.tr (hle.wI hh _ _ _ _)) hext (vok_wI hvl) (vok_wI (vok_tl (vok_tl (vok_tl hvs)))) hlen hl))
  case castore =>
    have hdg := dec_at hck (by rintro d lo hi os z; cases z) (by rintro d os z; cases z)
    dsimp only [FH] at hF
    obtain ⟨x, j, t, a, r, rfl, hok, h2⟩ := ast_cases hF
    obtain ⟨v, h3, h4⟩ := sta_ex h2
    exact s_ast hx hb hw hok (hvs _ (List.mem_cons_of_mem _ (List.mem_cons_of_mem _ List.mem_cons_self))) (Or.inr (Or.inr rfl)) hdg (h4 _ (fun ws' H1 locs1 hw' => h3.2 ws' tys φ H1 locs1 L hw' (hle0.tr (hle.wI hh _ _ _ _)) hext (vok_wI hvl) (vok_wI (vok_tl (vok_tl (vok_tl hvs)))) hlen hl))
  case aaload =>
    have hdg := dec_at hck (by rintro d lo hi os z; cases z) (by rintro d os z; cases z)
    dsimp only [FH] at hF
    split at hF
    · rename_i j t o r
      obtain ⟨hbt, h2⟩ := if_ex hF
      simp only [Bool.and_eq_true, Nat.ble_eq, Nat.blt_eq] at hbt
      obtain ⟨a, rfl, h3, h4⟩ := dr_ex h2
      have ha : a < jN hh t := hvs _ (List.mem_cons_of_mem _ List.mem_cons_self)
      exact s_aald hx hb hw hbt.1 hbt.2 ha h3 hdg (h4.2 ws tys φ H locs L hw hle0 hext hvl (vok_cons (hw.1.2.2.2.1 t a (ix j) hbt.1 hbt.2 ha) (vok_tl (vok_tl hvs))) hlen hl)
    · exact hF.elim
  case aastore =>
    have hdg := dec_at hck (by rintro d lo hi os z; cases z) (by rintro d os z; cases z)
    dsimp only [FH] at hF
    split at hF
    · rename_i t' o' j t o r
      obtain ⟨hbt, h2⟩ := if_ex hF
      simp only [Bool.and_eq_true, Nat.ble_eq, Nat.blt_eq, beqT] at hbt
      obtain ⟨⟨b1, b2⟩, rfl⟩ := hbt
      obtain ⟨a, rfl, h3, h4⟩ := dr_ex h2
      have ha : a < jN hh t := hvs _ (List.mem_cons_of_mem _ (List.mem_cons_of_mem _ List.mem_cons_self))
      exact s_aast hx hb hw b1 b2 ha h3 (hvs _ List.mem_cons_self) hdg (fun ws' H1 locs1 hw' => h4.2 ws' tys φ H1 locs1 L hw' (hle0.tr (hle.wR hh _ _ _ _)) hext (vok_wR hvl) (vok_wR (vok_tl (vok_tl (vok_tl hvs)))) hlen hl)
    · exact hF.elim
  case arraylength =>
    have hdg := dec_at hck (by rintro d lo hi os z; cases z) (by rintro d os z; cases z)
    dsimp only [FH] at hF
    split at hF
    · rename_i t o r
      obtain ⟨a, rfl, h2⟩ := dr_ex hF
      split at h2
      · rename_i n hn
        exact s_alen hx hb hw hn (hvs _ List.mem_cons_self) hdg (h2.2 ws tys φ H locs L hw hle0 hext hvl (vok_cons trivial (vok_tl hvs)) hlen hl)
      · exact h2.elim
    · exact hF.elim
  case newarray at' =>
    have hdg := dec_at hck (by rintro d lo hi os z; cases z) (by rintro d os z; cases z)
    dsimp only [FH] at hF
    split at hF
    · rename_i n r
      obtain ⟨hbt, h2, h3, h4⟩ := if_ex hF
      have hb1 := h4.1.2.1
      have hb2 := h4.1.2.2
      have e1 : jC (mk hh (atyp at') (ix n) (ix n)) = jC hh + 1 := rfl
      have e2 : jZ (mk hh (atyp at') (ix n) (ix n)) = jZ hh + ix n := rfl
      refine s_newa hx hb hts hw hA (Nat.blt_eq.mp hbt) h2 h3 (by rw [hRc]; omega) (by rw [hRz]; omega) hdg (fun φ' ws' tys' H1 he hw' => ?_)
      exact SP.made (n := 0) h4 hle0 rfl rfl (hle.mk hh _ _ _) (mk_new hh _ _ _) hext he hw' hvl (vok_tl hvs) hlen hl
    · exact hF.elim
  case anewarray idx =>
    have hdg := dec_at hck (by rintro d lo hi os z; cases z) (by rintro d os z; cases z)
    dsimp only [FH] at hF
    split at hF
    · rename_i t n r hf
      obtain ⟨hbt, h2, h3, h4⟩ := if_ex hF
      simp only [Bool.or_eq_true, beqT] at hbt
      have hb1 := h4.1.2.1
      have hb2 := h4.1.2.2
      have e1 : jC (mk hh (30 + t) (ix n) (ix n)) = jC hh + 1 := rfl
      have e2 : jZ (mk hh (30 + t) (ix n) (ix n)) = jZ hh + ix n := rfl
      refine s_newq hx hb hown hts hw hA hf (by simp only [List.mem_cons, List.not_mem_nil, or_false]; omega) h2 h3 (by rw [hRc]; omega) (by rw [hRz]; omega) hdg (fun φ' ws' tys' H1 he hw' => ?_)
      exact SP.made (n := 0) h4 hle0 rfl rfl (hle.mk hh _ _ _) (mk_new hh _ _ _) hext he hw' hvl (vok_tl hvs) hlen hl
    · exact hF.elim
  case new idx =>
    have hdg := dec_at hck (by rintro d lo hi os z; cases z) (by rintro d os z; cases z)
    dsimp only [FH] at hF
    split at hF
    · rename_i t hf
      obtain ⟨hbt, h4⟩ := if_ex hF
      have hb1 := h4.1.2.1
      have hb2 := h4.1.2.2
      have e1 : jC (mk hh t 0 (nfl t)) = jC hh + 1 := rfl
      have e2 : jZ (mk hh t 0 (nfl t)) = jZ hh + nfl t := rfl
      refine s_new hx hb hown hts hw hA hf (Nat.blt_eq.mp hbt) (by rw [hRc]; omega) (by rw [hRz]; omega) hdg (fun φ' ws' H1 he hw' => ?_)
      exact SP.made (n := 0) h4 hle0 rfl rfl (hle.mk hh _ _ _) (mk_new hh _ _ _) hext he hw' hvl hvs hlen hl
    · exact hF.elim
  case invokestatic idx =>
    have hdg := dec_at hck (by rintro d lo hi os z; cases z) (by rintro d os z; cases z)
    rcases FH_static hF with ⟨ns, n, j, r, hf, rfl, hwt, ⟨hj0, hjn⟩, hs⟩ | ⟨ns, b, a, r, hf, rfl, hwt, hs⟩ | ⟨ns, b, a, r, hf, rfl, hwt, hs⟩ | ⟨ns, a, r, hf, rfl, hwt, hs⟩ | ⟨y', ns, hf, hy', hki, hpa, hwt, hwt2, hC⟩
    · have hG : GoodIn lw_good wsCk := fun w hw2 => by
        have : w ∈ lw_good := by
          rcases List.mem_cons.mp hw2 with rfl | hw2
          · exact ckw_6
          · exact hw2
        exact ⟨this, good_of_word (lw_good_good this).2⟩
      have hfr : ∀ q, va_A ws H.size q → A q := by
        intro q hq
        rcases hq with ⟨k, e, hk⟩ | hq
        · exact hw.2.2.2.1.2 k _ hk
        · exact hA q (Nat.le_trans hw.2.2.2.2.1.1 hq)
      refine s_call (A := A) (free := va_A ws H.size) (rest := r.map (trv φ)) (mc := 0) (ms := 0) (Qa := ckQ none #[.int j, .int n]) (va_runS (As := [.int j, .int n]) (rest := r.map (trv φ)) (Ts := lw_good) ⟨hx, hb, hml, hown, hts⟩ (c_ck l (va_A ws H.size) j n hj0 hjn) ⟨callB_of 2 hts hG rfl rfl rfl (hts _ ckw_8) (hts _ ((mth_sp hf).2.1 rfl)) (by decide +kernel) ⟨by rw [hRf]; show 1 + 1 ≤ _; omega, by rw [hRl]; show 8 + (2 + 11) + 64 ≤ _; omega⟩, hts _ ckw_7⟩ ⟨fun a U g mk q => ⟨q.1, va_Zq.moved (u := U) (U := U.calling g mk a) (Vm.Alike.refl U.vm) q.2⟩, fun U hU hW => ⟨rfl, (hw.2.2.2.2.2.to hw.2.2.2.2.1 hW hU hfr).2.2.2.2.2.2.2.1⟩⟩ rfl rfl hsize rfl (lv_room (by rw [wt_cat]; exact hwt)) hdg ⟨by rw [hRc]; omega, by rw [hRz]; omega⟩) hw.2.2.2.2.1 hfr (fun v st t h0 hq => ⟨by rw [hq.2]; exact Nat.le_refl _, fun q _ _ => by rw [hq.2]⟩) ?_
      rintro v1 st1 t H1 locs1 ht hal hh0 ⟨hv1, hheap⟩ hS1
      cases hv1
      have eH : H1 = H := by rw [← ht, hheap, hh0]
      subst eH
      exact hs.2 ws tys φ H1 locs1 L ⟨hw.1, hw.2.1, hw.2.2.1, hw.2.2.2.1, hS1, hw.2.2.2.2.2⟩ hle0 hext hvl (vok_tl (vok_tl hvs)) hlen hl
    · exact va_mmin hx hb (hml.trans hsize.symm) hown (hts _ ((mth_sp hf).2.2.1 rfl)) (hts _ math_min1) (hts _ math_ini) (hts _ math_min2) (by rw [hRf]; omega) (by rw [wt_cat, hRl]; omega) (by rw [hRc]; omega) (by rw [hRz]; omega) hdg (hs.2 ws tys φ H locs L hw hle0 hext hvl (vok_cons trivial (vok_tl (vok_tl hvs))) hlen hl)
    · exact va_mmax hx hb (hml.trans hsize.symm) hown (hts _ ((mth_sp hf).2.2.2.1 rfl)) (hts _ math_max1) (hts _ math_ini) (hts _ math_max2) (by rw [hRf]; omega) (by rw [wt_cat, hRl]; omega) (by rw [hRc]; omega) (by rw [hRz]; omega) hdg (hs.2 ws tys φ H locs L hw hle0 hext hvl (vok_cons trivial (vok_tl (vok_tl hvs))) hlen hl)
    · exact va_mabs hx hb (hml.trans hsize.symm) hown (hts _ ((mth_sp hf).2.2.2.2 rfl)) (hts _ math_abs1) (hts _ math_ini) (hts _ math_abs2) (by rw [hRf]; omega) (by rw [wt_cat, hRl]; omega) (by rw [hRc]; omega) (by rw [hRz]; omega) hdg (hs.2 ws tys φ H locs L hw hle0 hext hvl (vok_cons trivial (vok_tl hvs)) hlen hl)
    · obtain ⟨v1, h2, l1, hs, hc1⟩ := Call_det d y' _ hh _ hC
      obtain ⟨c1, c2, -, -, -, c6, -, c8, -⟩ := chkM_parts hy'
      have hva : ∀ v ∈ (st.take (mPa y')).reverse, vok hh v := fun v z => hvs v (List.mem_of_mem_take (List.mem_reverse.mp z))
      have M := ih y' _ hh v1 h2 hy' (by rw [wt_rev]; exact hwt2) hc1 D ws tys φ H.size hw.1 hva
      have hb1 := hs.1.2.1
      have hb2 := hs.1.2.2
      have hb3 := l1.2.1
      have hb4 := l1.2.2
      have hstk : st.map (trv φ) = (((st.take (mPa y')).reverse).map (trv φ)).reverse ++ (st.drop (mPa y')).map (trv φ) := by
        rw [← List.map_reverse, List.reverse_reverse, ← List.map_append, List.take_append_drop]
      have hnl : (((st.take (mPa y')).reverse).map (trv φ)).length = mPa y' := by
        rw [List.length_map, List.length_reverse, List.length_take]; omega
      refine SP.back (a := (((st.take (mPa y')).reverse).map (trv φ)).toArray) (as' := []) (d := d) hy' hs hle0 l1 hext hw hA hvl (fun v z => hvs v (List.mem_of_mem_drop z)) hlen hl ?_
      rcases mth_ex hf hy' with ⟨-, hlk⟩ | ⟨-, hlk⟩
      · exact va_runS (As := ((st.take (mPa y')).reverse).map (trv φ)) (Ts := lw_good) ⟨hx, hb, hml, hown, hts⟩ M ⟨callB_of (mPa y') hts (good_TW hy') rfl rfl rfl (hts _ c1) (hts _ hlk) c8 ⟨by rw [hRf]; show d + 2 + 1 ≤ _; omega, by rw [hRl]; show 8 + (mLo y' + 11) + (64 * d + 192) ≤ _; omega⟩, hts _ (c2 hki)⟩ ⟨PcA_blind, pre_A hw hA⟩ rfl hnl hsize hstk (lv_room (by rw [wt_cat]; exact hwt)) hdg ⟨by rw [hRc]; omega, by rw [hRz]; omega⟩
      · exact va_runSN (As := ((st.take (mPa y')).reverse).map (trv φ)) (Ts := lw_good) ⟨hx, hb, hml, hown, hts⟩ M ⟨va_cnB (mPa y') hts (good_TW hy') rfl rfl rfl (hw.2.2.2.2.2.2.2.2.2.2.2.2.2.1 _ hlk) (hts _ c1) c8 ⟨by rw [hRf]; show d + 2 + 1 ≤ _; omega, by rw [hRl]; show 8 + (mLo y' + 11) + (64 * d + 192) ≤ _; omega⟩, hts _ (c2 hki), trivial⟩ ⟨PcA_blind, pre_A hw hA⟩ rfl hnl hsize hstk (lv_room (by rw [wt_cat]; exact hwt)) hdg ⟨by rw [hRc]; omega, by rw [hRz]; omega⟩
  case invokevirtual idx =>
    have hdg := dec_at hck (by rintro d lo hi os z; cases z) (by rintro d os z; cases z)
    obtain ⟨y', a, r, hf, hdrop, hy', hki, hwt, hwt2, hC⟩ := FH_virtual hF
    obtain ⟨v1, h2, l1, hs, hc1⟩ := Call_det d y' _ hh _ hC
    obtain ⟨c1, -, c3, -, -, c6, -, c8, c9⟩ := chkM_parts hy'
    obtain ⟨c31, c32, c33⟩ := c3 hki
    have hmem : .inr (.inr (mOw y', some a)) ∈ st := List.mem_of_mem_drop (by rw [hdrop]; exact List.mem_cons_self)
    have ha : a < jN hh (mOw y') := hvs _ hmem
    have hva : ∀ v ∈ (.inr (.inr (mOw y', some a)) :: (st.take (mPa y')).reverse : List AV), vok hh v := vok_cons ha (fun v z => hvs v (List.mem_of_mem_take (List.mem_reverse.mp z)))
    have M := ih y' _ hh v1 h2 hy' (by show wt (st.take (mPa y')).reverse + 1 ≤ _; rw [wt_rev]; omega) hc1 D ws tys φ H.size hw.1 hva
    have hb1 := hs.1.2.1
    have hb2 := hs.1.2.2
    have hb3 := l1.2.1
    have hb4 := l1.2.2
    have hlt : mPa y' < st.length := by
      have := congrArg List.length hdrop
      rw [List.length_drop, List.length_cons] at this
      omega
    have hstk : st.map (trv φ) = (((st.take (mPa y')).reverse).map (trv φ)).reverse ++ Value.ref (φ (mOw y') a) :: r.map (trv φ) := by
      have e1 : Value.ref (φ (mOw y') a) :: r.map (trv φ) = (st.drop (mPa y')).map (trv φ) := by rw [hdrop]; rfl
      rw [e1, ← List.map_reverse, List.reverse_reverse, ← List.map_append, List.take_append_drop]
    have hnl : (((st.take (mPa y')).reverse).map (trv φ)).length = mPa y' := by
      rw [List.length_map, List.length_reverse, List.length_take]; omega
    have hrecv : ∃ cellB : Cell, H[φ (mOw y') a]? = some cellB ∧ cellB.vm.isStatics = false ∧ s.vm.findClass (mNm y').cls = some cellB.cls := by
      rw [← c9]
      rcases c33 with c33 | c33
      · obtain ⟨i, cA, hi2, -⟩ := hw.1.1 (mOw y') a (by unfold hrg; simp [Nat.blt_eq, c33]) ha
        rw [cellOf_obj c33] at hi2
        exact va_recv hw.2.1 hw.2.2.1 (cls_at _ c33) hi2
      · rw [c33] at ha ⊢
        rw [hw.1.2.2.2.2.1] at ha
        obtain ⟨cell, g1, g2, g3, -⟩ := (hw.2.2.2.2.2.1 a ha).1.kept hw.2.2.2.2.1.2.1
        exact ⟨cell, g1, g2, g3⟩
    refine SP.back (a := (Value.ref (φ (mOw y') a) :: ((st.take (mPa y')).reverse).map (trv φ)).toArray) (as' := []) (d := d) hy' hs hle0 l1 hext hw hA hvl (fun v z => hvs v (List.mem_of_mem_drop (by rw [hdrop]; exact List.mem_cons_of_mem _ z))) hlen hl ?_
    rcases mth_ex hf hy' with ⟨-, hlk⟩ | ⟨z, -⟩
    · exact va_runV (C := (mNm y').cls) (As := ((st.take (mPa y')).reverse).map (trv φ)) (Ts := lw_good) ⟨hx, hb, hml, hown, hts⟩ M ⟨callB_of (mPa y') hts (good_TW hy') rfl rfl rfl (hts _ c1) (hts _ hlk) c8 ⟨by rw [hRf]; show d + 2 + 1 ≤ _; omega, by rw [hRl]; show 8 + (mLo y' + 11) + (64 * d + 192) ≤ _; omega⟩, hts _ c31, hts _ c32⟩ ⟨PcA_blind, hrecv, pre_A hw hA⟩ rfl hnl hsize hstk (lv_room (by rw [wt_cat]; exact hwt)) hdg ⟨by rw [hRc]; omega, by rw [hRz]; omega⟩
    · exact absurd rfl z
  case invokespecial idx =>
    have hdg := dec_at hck (by rintro d lo hi os z; cases z) (by rintro d os z; cases z)
    rcases FH_special hF with ⟨ns, t, a, r, hf, rfl, hwt, hs⟩ | ⟨y', ns, a, r, hf, hdrop, hy', hki, hwt, hwt2, hC⟩
    · exact W.objInit hx hb hown (hts _ ((mth_sp hf).1 rfl)) (hts _ obj_w1) (hts _ obj_w2) rfl (hsize.trans hml.symm) rfl hdg (by rw [hRf]; omega) (by rw [hRl]; show 2 * 0 + ((r.map (trv φ)).map fun v => v.category).sum + 12 ≤ _; rw [wt_cat]; omega) (hs.2 ws tys φ H locs L hw hle0 hext hvl (vok_tl hvs) hlen hl)
    · obtain ⟨v1, h2, l1, hs, hc1⟩ := Call_det d y' _ hh _ hC
      obtain ⟨c1, -, -, c4, -, c6, -, c8, c9⟩ := chkM_parts hy'
      obtain ⟨c41, c42, c43, c44⟩ := c4 hki
      have hmem : .inr (.inr (mOw y', some a)) ∈ st := List.mem_of_mem_drop (by rw [hdrop]; exact List.mem_cons_self)
      have ha : a < jN hh (mOw y') := hvs _ hmem
      have hva : ∀ v ∈ (.inr (.inr (mOw y', some a)) :: (st.take (mPa y')).reverse : List AV), vok hh v := vok_cons ha (fun v z => hvs v (List.mem_of_mem_take (List.mem_reverse.mp z)))
      have M := ih y' _ hh v1 h2 hy' (by show wt (st.take (mPa y')).reverse + 1 ≤ _; rw [wt_rev]; omega) hc1 D ws tys φ H.size hw.1 hva
      have hb1 := hs.1.2.1
      have hb2 := hs.1.2.2
      have hb3 := l1.2.1
      have hb4 := l1.2.2
      have hlt : mPa y' < st.length := by
        have := congrArg List.length hdrop
        rw [List.length_drop, List.length_cons] at this
        omega
      have hstk : st.map (trv φ) = (((st.take (mPa y')).reverse).map (trv φ)).reverse ++ Value.ref (φ (mOw y') a) :: r.map (trv φ) := by
        have e1 : Value.ref (φ (mOw y') a) :: r.map (trv φ) = (st.drop (mPa y')).map (trv φ) := by rw [hdrop]; rfl
        rw [e1, ← List.map_reverse, List.reverse_reverse, ← List.map_append, List.take_append_drop]
      have hnl : (((st.take (mPa y')).reverse).map (trv φ)).length = mPa y' := by
        rw [List.length_map, List.length_reverse, List.length_take]; omega
      have hTW : TW y' = Cond.code (mNm y') (mBy y') (mLo y') none :: lw_good := by unfold TW; rw [c43]
      refine SP.back (a := (Value.ref (φ (mOw y') a) :: ((st.take (mPa y')).reverse).map (trv φ)).toArray) (as' := []) (d := d) hy' hs hle0 l1 hext hw hA hvl (fun v z => hvs v (List.mem_of_mem_drop (by rw [hdrop]; exact List.mem_cons_of_mem _ z))) hlen hl ?_
      rcases mth_ex hf hy' with ⟨-, hlk⟩ | ⟨-, hlk⟩
      · exact va_runI (As := ((st.take (mPa y')).reverse).map (trv φ)) (Ts := lw_good) ⟨hx, hb, hml, hown, hts⟩ M ⟨callB_of (mPa y') hts (good_TW hy') hTW rfl rfl (hts _ c1) (hts _ hlk) c8 ⟨by rw [hRf]; show d + 2 + 1 ≤ _; omega, by rw [hRl]; show 8 + (mLo y' + 11) + (64 * d + 192) ≤ _; omega⟩, c42, hts _ c41⟩ ⟨PcA_blind, pre_A hw hA⟩ rfl hnl hsize hstk (lv_room (by rw [wt_cat]; exact hwt)) hdg ⟨by rw [hRc]; omega, by rw [hRz]; omega⟩
      · exact va_runIN (As := ((st.take (mPa y')).reverse).map (trv φ)) (Ts := lw_good) ⟨hx, hb, hml, hown, hts⟩ M ⟨va_cnB (mPa y') hts (good_TW hy') hTW rfl rfl (hw.2.2.2.2.2.2.2.2.2.2.2.2.2.1 _ hlk) (hts _ c1) c8 ⟨by rw [hRf]; show d + 2 + 1 ≤ _; omega, by rw [hRl]; show 8 + (mLo y' + 11) + (64 * d + 192) ≤ _; omega⟩, c42, hts _ c41⟩ ⟨PcA_blind, pre_A hw hA⟩ rfl hnl hsize hstk (lv_room (by rw [wt_cat]; exact hwt)) hdg ⟨by rw [hRc]; omega, by rw [hRz]; omega⟩
  case ireturn =>
    have hdg := dec_at hck (by rintro d lo hi os z; cases z) (by rintro d os z; cases z)
    have hro := rOk_ex (chkM_parts hy).2.2.2.2.1
    dsimp only [FH] at hF
    split at hF
    · split at hF
      · obtain ⟨rfl, rfl⟩ := hF
        exact W.iret hx hb (hr.trans (hro.2.1 (by assumption))) (fun t ht hW => hQc t ws tys φ H locs ht hW hw hext (fun v z => by cases z; trivial)) hw.2.2.2.2.1.2.2 hdg hlocks
      · obtain ⟨hnar, rfl, rfl⟩ := hF
        unfold FH.dr2 at hnar
        split at hnar
        · exact W.zret hx hb (hr.trans (by assumption)) hnar (fun t ht hW => hQc t ws tys φ H locs ht hW hw hext (fun v z => by cases z; trivial)) hw.2.2.2.2.1.2.2 hdg hlocks
        · exact hnar.elim
      · exact hF.elim
    · exact hF.elim
  case lreturn =>
    have hdg := dec_at hck (by rintro d lo hi os z; cases z) (by rintro d os z; cases z)
    have hro := rOk_ex (chkM_parts hy).2.2.2.2.1
    dsimp only [FH] at hF
    split at hF
    · split at hF
      · obtain ⟨rfl, rfl⟩ := hF
        exact W.lret hx hb (hr.trans (hro.2.2.1 (by assumption))) (fun t ht hW => hQc t ws tys φ H locs ht hW hw hext (fun v z => by cases z; trivial)) hw.2.2.2.2.1.2.2 hdg hlocks
      · exact hF.elim
    · exact hF.elim
  case areturn =>
    have hdg := dec_at hck (by rintro d lo hi os z; cases z) (by rintro d os z; cases z)
    have hro := rOk_ex (chkM_parts hy).2.2.2.2.1
    dsimp only [FH] at hF
    split at hF
    · split at hF
      · obtain ⟨rt, e1, e2⟩ := hro.2.2.2 _ (by assumption)
        split at hF
        · have e3 := Nat.eq_of_beq_eq_true (by assumption)
          subst e3
          obtain ⟨rfl, rfl⟩ := hF
          exact W.aret hx hb (hr.trans e1) e2 (rf_or _) (fun t ht hW => hQc t ws tys φ H locs ht hW hw hext (fun v z => by cases z; exact hvs _ List.mem_cons_self)) hw.2.2.2.2.1.2.2 hdg hlocks
        · obtain ⟨rfl, rfl⟩ := hF
          exact W.aret hx hb (hr.trans e1) e2 (Or.inl rfl) (fun t ht hW => hQc t ws tys φ H locs ht hW hw hext (fun v z => by cases z; trivial)) hw.2.2.2.2.1.2.2 hdg hlocks
        · exact hF.elim
      · exact hF.elim
    · exact hF.elim
  case return_ =>
    have hdg := dec_at hck (by rintro d lo hi os z; cases z) (by rintro d os z; cases z)
    have hro := rOk_ex (chkM_parts hy).2.2.2.2.1
    dsimp only [FH] at hF
    split at hF
    · split at hF
      · obtain ⟨rfl, rfl⟩ := hF
        exact W.vret hx hb (hr.trans (hro.1 (by assumption))) (fun t ht hW => hQc t ws tys φ H locs ht hW hw hext (fun v z => by cases z)) hw.2.2.2.2.1.2.2 hdg hlocks
      · exact hF.elim
    · exact hF.elim
  all_goals exact (show False from hF).elim
end WALK2
/-- every method of the tables, at every depth -/
theorem sound (l : Launch) : ∀ d, SoundAt l d
  | 0 => fun _ _ _ _ _ _ _ hc => hc.elim
  | d + 1 => by
    intro y as h rv h1 hy hwt hcall D ws tys φ sz hR hv
    obtain ⟨c1, -, -, c4, -, -, c7, -, c9⟩ := chkM_parts hy
    refine Met.ofW (cc := mBy y) (maxL := mLo y) (ret := mRt y) c7 rfl ?_
    intro p e s m args below meth c s₁ B hml hv0
    obtain ⟨rfl, hsz, hK, hP, hD0, hrom⟩ := hv0
    subst hsz
    have hts := atoms_spec (ws := TW y) B.pre
    have hts2 : ∀ w ∈ lw_good, w.before (as.map (trv φ)).toArray s = true := fun w hw => hts w (List.mem_cons_of_mem _ hw)
    have hown : s.vm.findClass (cnm (mOw y)) = some m.cls := by rw [c9]; exact findClass_of_methodNamed B.named
    have hini : mKi y = 2 → meth.name = "<init>" := fun z => ((name_of_methodNamed B.named B.method).1).trans (c4 z).2.1
    have hA : ∀ q, s.heap.size ≤ q → va_A ws s.heap.size q := fun q hq => Or.inr hq
    have hl := lv_entry (as.map (trv φ)) (n := mLo y) (by rw [sl_len]; exact hwt)
    rw [lg_entry_eq]
    generalize (lg_sl (as.map (trv φ)) ++ List.replicate (mLo y - (lg_sl (as.map (trv φ))).length) Slot.unset).toArray = L at hl ⊢
    have hl2 : lv_has L (mLo y) (prl φ 0 (entLs as (mLo y))) := ⟨hl.1, hl.2.1, fun q hq => hl.2.2 q (prl_ent φ as _ 0 q hq)⟩
    have hlen : (entLs as (mLo y)).length = mLo y := by
      unfold entLs
      rw [List.length_append, List.length_replicate, wt_len]
      omega
    have hsp := hcall (SP p l e s m (as.map (trv φ)).toArray below meth c (va_A ws s.heap.size) D (rmd (d + 1) (jC h1 - jC h) (jZ h1 - jZ h)) (MQ below (QcA D h φ ws s.heap.size rv h1) (as.map (trv φ)).toArray s (jC h1 - jC h) (jZ h1 - jZ h) (va_A ws s.heap.size)) y h φ h1) (walk hy (sound l d) B.exec B.bytes B.returns hml hown hts2 B.notSynchronized hini hA rfl rfl rfl rfl (fun t ws' tys' φ' H locs ht hW hw hext hvr => ⟨⟨ws', tys', φ', rfl, hvr, hw.1, hext, va_K.moved hW.alike hw.2.1, by rw [ht]; exact hw.2.2.1, hw.2.2.2.1⟩, hw.2.2.2.2.1.F ht⟩))
    have := hsp.2 ws tys φ s.heap [] L ⟨hR, hK, hP, hD0.self, va_S.rf, hrom⟩ (hle.rf h) (fun _ _ _ => rfl) (ent_vok hv (mLo y)) (fun v z => by cases z) hlen hl2
    rw [Nat.sub_self, Nat.sub_self] at this
    exact this
