/-! rows of single heap steps: puts, rows, new cells -/
theorem beqT {a b : Nat} : (Nat.beq a b = true) = (a = b) := propext ⟨Nat.eq_of_beq_eq_true, fun h => by rw [h]; exact Nat.beq_refl b⟩
theorem atf_ref {t : Nat} (h : 25 ≤ t) : atf t = .object (cnm (t - 30)) := by
  unfold atf
  split
  · omega
  · omega
  · omega
  · omega
  · rfl
theorem D_new {A : Nat → Prop} {ws : va_W} {q : Nat} {e : va_E} (h : va_D A (ws ++ [(q, e)])) : ∀ (i : Nat) (p : Nat × va_E), ws[i]? = some p → p.1 ≠ q := by
  intro i p hp he
  have hlt : i < ws.length := (List.getElem?_eq_some_iff.mp hp).1
  have := h.1 i ws.length p (q, e) (by rw [List.getElem?_append_left hlt]; exact hp) (by rw [List.getElem?_append_right (Nat.le_refl _), Nat.sub_self]; rfl) he
  omega
theorem mk_I (h : Hp) (t n sl k : Nat) : jI (mk h t n sl) t (jN h t) k = 0 := if_pos ⟨rfl, rfl⟩
theorem mk_L (h : Hp) (t n sl k : Nat) : jL (mk h t n sl) t (jN h t) k = 0 := if_pos ⟨rfl, rfl⟩
theorem mk_R (h : Hp) (t n sl k : Nat) : jR (mk h t n sl) t (jN h t) k = none := if_pos ⟨rfl, rfl⟩
theorem mk_len (h : Hp) (t n sl : Nat) : jLen (mk h t n sl) t (jN h t) = n := if_pos ⟨rfl, rfl⟩
theorem gf_mk {h : Hp} {t n sl k : Nat} {φ : Nat → Nat → Nat} (ht : t < 12) (hk : k < nfl t) : trv φ (gf (mk h t n sl) t (jN h t) k) = defaultValue (tyRs t k) := by
  have hg := kOk_at ht hk
  unfold kOk at hg
  unfold gf
  split at hg
  · rename_i e0
    simp only [decide_eq_true_eq] at hg
    rw [e0, hg, mk_I]
    rfl
  · rename_i e0
    simp only [decide_eq_true_eq] at hg
    rw [e0, hg, mk_L]
    rfl
  · rename_i e0
    simp only [decide_eq_true_eq] at hg
    rw [e0, hg, mk_I]
    rfl
  · cases hg
  · cases hg
  · rename_i n0 e0
    rw [e0, mk_R]
    split at hg
    · rename_i e1; rw [e1]; rfl
    · rename_i e1; rw [e1]; rfl
    · cases hg
theorem Rom.phi {φ φ' : Nat → Nat → Nat} {A : Nat → Prop} {s : State} {H : Heap} {h : Hp} {ws : va_W} {tys : List (ClassId × FieldType)} (he : ∀ t a, a < jN h t → φ' t a = φ t a) (hR : Rel h ws tys φ) (hr : Rom φ A s H) : Rom φ' A s H := by
  obtain ⟨-, -, -, -, n0, n1, n2⟩ := hR
  have e0 : ∀ i, i < 34 → φ' 40 i = φ 40 i := fun i hi => he 40 i (by rw [n0]; exact hi)
  have e1 : ∀ i, i < 34 → φ' 41 i = φ 41 i := fun i hi => he 41 i (by rw [n1]; exact hi)
  have e2 : ∀ i, i < 3 → φ' 42 i = φ 42 i := fun i hi => he 42 i (by rw [n2]; exact hi)
  obtain ⟨h1, h2, h3, h4, h5, h6, h7⟩ := hr
  refine ⟨fun i hi => ?_, fun own idx id hl => ?_, fun a ha => ?_, ?_, ?_, ?_, h7⟩
  · rw [e0 i hi, e1 i hi]; exact h1 i hi
  · have := List.all_eq_true.mp (show strL.all (fun q => Nat.blt q.2.2 34) = true by decide +kernel) _ (lk2_mem hl)
    rw [e0 id (Nat.blt_eq.mp this)]
    exact h2 own idx id hl
  · rw [e2 a ha]; exact h3 a ha
  · rw [e2 0 (by decide)]; exact h4
  · rw [e2 1 (by decide)]; exact h5
  · rw [e2 2 (by decide)]; exact h6
section SND4
variable {p : Program} {l : Launch} {e : Env} {R : Room} {s : State} {m : MethodId} {args : Array Value} {below : List Frame} {meth : Method} {c : Code} {H : Heap} {locs : List Loc} {cells slots : Nat} {Qw : State → Prop}
variable {cc : ByteArray} {A : Nat → Prop} {φ : Nat → Nat → Nat} {L : Array Slot} {rest : List Value} {own pc idx : Nat} {h : Hp} {ws : va_W} {tys : List (ClassId × FieldType)} {D : va_G}
theorem s_putf (hx : p.tables.exec = Jvm.exec) (hb : c.code = cc) (hown : s.vm.findClass (cnm own) = some m.cls) (hts : ∀ w ∈ lw_good, w.before args s = true) (hw : Wld D A s h φ ws tys H locs) {t k ns a : Nat} (hf : fld own idx = some (t, k, ns)) (ht : t ≠ 40) (ha : a < jN h t) {v : AV} {h' : Hp} (hn : narrow (tyRs t k) (trv φ v) = trv φ v) (hfit : fits (tyRs t k) (trv φ v) = true)
    (hfin : (TRs t k).2.2.2 = true → ns = 0 ∧ meth.name = "<init>" ∧ (TRs t k).1 = cnm own)
    (hrel : ∀ (i : Nat) (cA : ClassId), t < 12 → k < nfl t → ws[i]? = some (φ t a, cellOf h φ cA t a) → Rel h' (ws.set i (φ t a, .inr (t, (flds h φ t a).set k (trv φ v)))) tys φ) (hdg : decode cc pc = .ok (.putfield idx, 3))
    (kk : ∀ (ws' : va_W) (H1 : Heap) (locs1 : List Loc), Wld D A s h' φ ws' tys H1 locs1 → W p l e R s m args below meth c H1 locs1 cells slots Qw (F0 m (pc + 3) L rest)) : W p l e R s m args below meth c H locs cells slots Qw (F0 m pc L (trv φ v :: .ref (φ t a) :: rest)) := by
  obtain ⟨hR, hK, hP, hD, hS, hrom⟩ := hw
  rcases fld_ex hf with ⟨h40, -⟩ | ⟨h12, hk, hl⟩
  · exact absurd h40 ht
  · obtain ⟨i, cA, hi, -⟩ := hR.1 t a (by unfold hrg; simp [Nat.blt_eq, h12]) ha
    have hr2 := hrel i cA h12 hk hi
    rw [cellOf_obj h12] at hi
    have hlen : k < (flds h φ t a).length := by rw [flds_len]; exact hk
    cases hfb : (TRs t k).2.2.2 with
    | true =>
      obtain ⟨hns, hname, hdecl⟩ := hfin hfb
      rcases hl with ⟨-, hl⟩ | ⟨hne, -⟩
      · exact va_putF (C := cnm t) (T := TRs t) (N := nfl t) hx hb hts (lay_in h12) (tyRs t) (ty_at h12) (nm_at h12) hown hK hP hD hS i hi (cls_at t h12) k hk (hts _ hl) (fun _ z => z) hfb hname hdecl (ty_at h12 k hk) hn hfit hlen hdg (fun H1 locs1 q1 q2 q3 => kk _ H1 locs1 ⟨hr2, hK, q1, q2, q3, hrom⟩)
      · exact absurd hns hne
    | false =>
      rcases hl with ⟨-, hl⟩ | ⟨-, hl⟩
      · exact va_put (C := cnm t) (T := TRs t) (N := nfl t) hx hb hts (lay_in h12) (tyRs t) (ty_at h12) (nm_at h12) hown hK hP hD hS i hi (cls_at t h12) k hk (hts _ hl) (fun _ z => z) hfb (ty_at h12 k hk) hn hfit hlen hdg (fun H1 locs1 q1 q2 q3 => kk _ H1 locs1 ⟨hr2, hK, q1, q2, q3, hrom⟩)
      · exact va_putN (C := cnm t) (T := TRs t) (N := nfl t) hx hb hts (lay_in h12) (tyRs t) (ty_at h12) (nm_at h12) hown hK hP hD hS i hi (cls_at t h12) k hk (va_Nw.use rfl (hrom.2.2.2.2.2.2.2.2.1 _ hl)) (fun _ z => z) hfb (ty_at h12 k hk) hn hfit hlen hdg (fun H1 locs1 q1 q2 q3 => kk _ H1 locs1 ⟨hr2, hK, q1, q2, q3, hrom⟩)
theorem hrg_int {t : Nat} (h1 : 21 ≤ t) (h2 : t < 25) : hrg t = true := by
  unfold hrg
  simp only [Bool.or_eq_true, Bool.and_eq_true, Nat.blt_eq, Nat.ble_eq]
  omega
theorem hrg_ref {t : Nat} (h1 : 30 ≤ t) (h2 : t < 40) : hrg t = true := by
  unfold hrg
  simp only [Bool.or_eq_true, Bool.and_eq_true, Nat.blt_eq, Nat.ble_eq]
  omega
/-- the cell of a row of ints -/
theorem at_int (hw : Wld D A s h φ ws tys H locs) {t a : Nat} (h1 : 21 ≤ t) (h2 : t < 25) (ha : a < jN h t) : ∃ (i : Nat) (cA : ClassId) (j : Nat), ws[i]? = some (φ t a, cellOf h φ cA t a) ∧ ws[i]? = some (φ t a, .inl (cA, jLen h t a, .inl (jI h t a))) ∧ tys[j]? = some (cA, atf t) := by
  obtain ⟨i, cA, hi, hj⟩ := hw.1.1 t a (hrg_int h1 h2) ha
  obtain ⟨j, hj⟩ := hj (by omega)
  exact ⟨i, cA, j, hi, by rw [hi, cellOf_int (by omega) h2], hj⟩
theorem at_ref (hw : Wld D A s h φ ws tys H locs) {t a : Nat} (h1 : 30 ≤ t) (h2 : t < 40) (ha : a < jN h t) : ∃ (i : Nat) (cA : ClassId) (j : Nat), ws[i]? = some (φ t a, cellOf h φ cA t a) ∧ ws[i]? = some (φ t a, .inl (cA, jLen h t a, .inr (.inr (.inr (.inr (fun k => (jR h t a k).map (φ (t - 30)))))))) ∧ tys[j]? = some (cA, .object (cnm (t - 30))) := by
  obtain ⟨i, cA, hi, hj⟩ := hw.1.1 t a (hrg_ref h1 h2) ha
  obtain ⟨j, hj⟩ := hj (by omega)
  exact ⟨i, cA, j, hi, by rw [hi, cellOf_ref (by omega)], by rw [hj, atf_ref (by omega)]⟩
theorem s_ald (hx : p.tables.exec = Jvm.exec) (hb : c.code = cc) (hw : Wld D A s h φ ws tys H locs) {i : Instr} {t a : Nat} {j : Int32} (hok : okA i t = true) (ha : a < jN h t) (hi : i = .iaload ∨ i = .baload ∨ i = .caload) (hdg : decode cc pc = .ok (i, 1))
    (kk : lda h t a j (fun v => W p l e R s m args below meth c H locs cells slots Qw (F0 m (pc + 1) L (trv φ v :: rest)))) : W p l e R s m args below meth c H locs cells slots Qw (F0 m pc L (.int j :: .ref (φ t a) :: rest)) := by
  have hw0 := hw
  obtain ⟨hR, hK, hP, hD, hS, hrom⟩ := hw
  rcases hi with rfl | rfl | rfl
  · simp only [okA, Bool.or_eq_true, beqT] at hok
    rcases hok with rfl | rfl
    · obtain ⟨q, cA, jj, -, g2, g3⟩ := at_int hw0 (by decide) (by decide) ha
      exact va_iald hx hb hK hP q jj g2 g3 kk.1 hdg kk.2
    · rw [hR.2.2.2.2.2.2] at ha
      exact va_ti hx hb (hrom.2.2.1 a ha) hS kk.1 rfl hdg kk.2
  · simp only [okA, Bool.or_eq_true, beqT] at hok
    rcases hok with (rfl | rfl) | rfl
    · obtain ⟨q, cA, jj, -, g2, g3⟩ := at_int hw0 (by decide) (by decide) ha
      exact va_bald hx hb hK hP q jj g2 g3 kk.1 hdg kk.2
    · obtain ⟨q, cA, jj, -, g2, g3⟩ := at_int hw0 (by decide) (by decide) ha
      exact va_zald hx hb hK hP q jj g2 g3 kk.1 hdg kk.2
    · rw [hR.2.2.2.2.2.1] at ha
      exact va_tb hx hb (hrom.1 a ha).2.2.2 hS kk.1 rfl hdg kk.2
  · simp only [okA, beqT] at hok
    subst hok
    obtain ⟨q, cA, jj, -, g2, g3⟩ := at_int hw0 (by decide) (by decide) ha
    exact va_cald hx hb hK hP q jj g2 g3 kk.1 hdg kk.2
theorem s_ast (hx : p.tables.exec = Jvm.exec) (hb : c.code = cc) (hw : Wld D A s h φ ws tys H locs) {i : Instr} {t a : Nat} {j x : Int32} (hok : okA i t = true) (ha : a < jN h t) (hi : i = .iastore ∨ i = .bastore ∨ i = .castore) (hdg : decode cc pc = .ok (i, 1))
    (kk : sta h t a j x (fun h' => ∀ (ws' : va_W) (H1 : Heap) (locs1 : List Loc), Wld D A s h' φ ws' tys H1 locs1 → W p l e R s m args below meth c H1 locs1 cells slots Qw (F0 m (pc + 1) L rest))) : W p l e R s m args below meth c H locs cells slots Qw (F0 m pc L (.int x :: .int j :: .ref (φ t a) :: rest)) := by
  have hw0 := hw
  obtain ⟨hR, hK, hP, hD, hS, hrom⟩ := hw
  rcases hi with rfl | rfl | rfl
  · simp only [okA, beqT] at hok
    subst hok
    obtain ⟨q, cA, jj, g1, g2, g3⟩ := at_int hw0 (by decide) (by decide) ha
    exact va_iast hx hb hK hP hD hS q jj g2 g3 kk.1 hdg (fun H1 locs1 q1 q2 q3 => kk.2 _ H1 locs1 ⟨hR.putA _ (by decide) (by decide) ha g1 ⟨jj, g3⟩, hK, q1, q2, q3, hrom⟩)
  · simp only [okA, Bool.or_eq_true, beqT] at hok
    rcases hok with rfl | rfl
    · obtain ⟨q, cA, jj, g1, g2, g3⟩ := at_int hw0 (by decide) (by decide) ha
      exact va_bast hx hb hK hP hD hS q jj g2 g3 kk.1 hdg (fun H1 locs1 q1 q2 q3 => kk.2 _ H1 locs1 ⟨hR.putA _ (by decide) (by decide) ha g1 ⟨jj, g3⟩, hK, q1, q2, q3, hrom⟩)
    · obtain ⟨q, cA, jj, g1, g2, g3⟩ := at_int hw0 (by decide) (by decide) ha
      exact va_zast hx hb hK hP hD hS q jj g2 g3 kk.1 hdg (fun H1 locs1 q1 q2 q3 => kk.2 _ H1 locs1 ⟨hR.putA _ (by decide) (by decide) ha g1 ⟨jj, g3⟩, hK, q1, q2, q3, hrom⟩)
  · simp only [okA, beqT] at hok
    subst hok
    obtain ⟨q, cA, jj, g1, g2, g3⟩ := at_int hw0 (by decide) (by decide) ha
    exact va_cast hx hb hK hP hD hS q jj g2 g3 kk.1 hdg (fun H1 locs1 q1 q2 q3 => kk.2 _ H1 locs1 ⟨hR.putA _ (by decide) (by decide) ha g1 ⟨jj, g3⟩, hK, q1, q2, q3, hrom⟩)
theorem s_aald (hx : p.tables.exec = Jvm.exec) (hb : c.code = cc) (hw : Wld D A s h φ ws tys H locs) {t a : Nat} {j : Int32} (h1 : 30 ≤ t) (h2 : t < 40) (ha : a < jN h t) (hj : vp_in j (jLen h t a)) (hdg : decode cc pc = .ok (.aaload, 1))
    (kk : W p l e R s m args below meth c H locs cells slots Qw (F0 m (pc + 1) L (trv φ (.inr (.inr (t - 30, jR h t a (ix j)))) :: rest))) : W p l e R s m args below meth c H locs cells slots Qw (F0 m pc L (.int j :: .ref (φ t a) :: rest)) := by
  obtain ⟨q, cA, jj, g1, g2, g3⟩ := at_ref hw h1 h2 ha
  exact va_aldq hx hb hw.2.1 hw.2.2.1 q jj g2 g3 hj hdg kk
theorem s_aast (hx : p.tables.exec = Jvm.exec) (hb : c.code = cc) (hw : Wld D A s h φ ws tys H locs) {t a : Nat} {j : Int32} {o : Option Nat} (h1 : 30 ≤ t) (h2 : t < 40) (ha : a < jN h t) (hj : vp_in j (jLen h t a)) (hv : vok h (vR (t - 30) o)) (hdg : decode cc pc = .ok (.aastore, 1))
    (kk : ∀ (ws' : va_W) (H1 : Heap) (locs1 : List Loc), Wld D A s (wR h t a (ix j) o) φ ws' tys H1 locs1 → W p l e R s m args below meth c H1 locs1 cells slots Qw (F0 m (pc + 1) L rest)) : W p l e R s m args below meth c H locs cells slots Qw (F0 m pc L (va_rf (o.map (φ (t - 30))) :: .int j :: .ref (φ t a) :: rest)) := by
  obtain ⟨q, cA, jj, g1, g2, g3⟩ := at_ref hw h1 h2 ha
  obtain ⟨hR, hK, hP, hD, hS, hrom⟩ := hw
  have hp := hR.putB (k := ix j) o h1 h2 ha hv g1 ⟨jj, by rw [g3, atf_ref (by omega)]⟩
  cases o with
  | none => exact va_astqN hx hb hK hP hD hS q jj g2 g3 hj hdg (fun H1 locs1 q1 q2 q3 => kk _ H1 locs1 ⟨hp, hK, q1, q2, q3, hrom⟩)
  | some b =>
    have h12 : t - 30 < 12 := by omega
    obtain ⟨qk, cB, gk, -⟩ := hR.1 (t - 30) b (by unfold hrg; simp [Nat.blt_eq, h12]) hv
    rw [cellOf_obj h12] at gk
    exact va_astq (r := (cnm (t - 30), TRs (t - 30), nfl (t - 30))) hx hb hK hP hD hS q jj qk (t - 30) g2 g3 gk (cls_at _ h12) hj hdg (fun H1 locs1 q1 q2 q3 => kk _ H1 locs1 ⟨hp, hK, q1, q2, q3, hrom⟩)
theorem s_alen (hx : p.tables.exec = Jvm.exec) (hb : c.code = cc) (hw : Wld D A s h φ ws tys H locs) {t a n : Nat} (hn : alen h t a = some n) (ha : a < jN h t) (hdg : decode cc pc = .ok (.arraylength, 1))
    (kk : W p l e R s m args below meth c H locs cells slots Qw (F0 m (pc + 1) L (.int (Int32.ofNat n) :: rest))) : W p l e R s m args below meth c H locs cells slots Qw (F0 m pc L (.ref (φ t a) :: rest)) := by
  have hw0 := hw
  obtain ⟨hR, hK, hP, hD, hS, hrom⟩ := hw
  unfold alen at hn
  split at hn
  · cases hn
    rw [hR.2.2.2.2.2.1] at ha
    exact va_tlen hx hb (hrom.1 a ha).2.2.2 hS rfl hdg kk
  · cases hn
    rw [hR.2.2.2.2.2.2] at ha
    exact va_tlen hx hb (hrom.2.2.1 a ha) hS rfl hdg kk
  · split at hn
    · rename_i b1 b2
      cases hn
      obtain ⟨q, cA, jj, -, g2, g3⟩ := at_int hw0 (Nat.blt_eq.mp b1) (Nat.blt_eq.mp b2) ha
      exact va_alen hx hb hK hP q jj g2 g3 rfl hdg kk
    · cases hn
theorem s_new (hx : p.tables.exec = Jvm.exec) (hb : c.code = cc) (hown : s.vm.findClass (cnm own) = some m.cls) (hts : ∀ w ∈ lw_good, w.before args s = true) (hw : Wld D A s h φ ws tys H locs) (hA : ∀ q, s.heap.size ≤ q → A q) {t : Nat} (hf : clk own idx = some t) (h12 : t < 12) (hc : cells + 1 ≤ R.cells) (hs : slots + nfl t ≤ R.slots) (hdg : decode cc pc = .ok (.new idx, 3))
    (kk : ∀ (φ' : Nat → Nat → Nat) (ws' : va_W) (H1 : Heap), (∀ t a, a < jN h t → φ' t a = φ t a) → Wld D A s (mk h t 0 (nfl t)) φ' ws' tys H1 locs → W p l e R s m args below meth c H1 locs (cells + 1) (slots + nfl t) Qw (F0 m (pc + 3) L (.ref (φ' t (jN h t)) :: rest))) : W p l e R s m args below meth c H locs cells slots Qw (F0 m pc L rest) := by
  obtain ⟨hR, hK, hP, hD, hS, hrom⟩ := hw
  obtain ⟨j, hj⟩ := all_zip clk_ok clk_len _ (lk2_mem hf)
  have hcl := wOK_mem hj
  have hi := List.all_eq_true.mp chkI_ok t (List.mem_range.mpr h12)
  unfold chkI at hi
  simp only [Bool.and_eq_true] at hi
  refine va_new (C := cnm t) (T := TRs t) (N := nfl t) (ci := t) (fs := flds (mk h t 0 (nfl t)) φ t (jN h t)) hx hb hts (lay_in h12) (tyRs t) (ty_at h12) hown (hts _ hcl) (hts _ (wOK_mem hi.1)) (hts _ (wOK_mem hi.2)) hK hP hD hS hA (cls_at t h12) (fun j hj => ?_) hc hs hdg (fun q H1 q1 q2 q3 => ?_)
  · show _ = (flds (mk h t 0 (nfl t)) φ t (jN h t)).getD j .null
    rw [List.getD_eq_getElem?_getD, flds_at hj]
    exact (gf_mk h12 hj).symm
  · have hq := D_new q2
    obtain ⟨r1, r2⟩ := hR.new (t := t) (q := q) (n := 0) (sl := nfl t) (cA := 0) (ex := []) (e := .inr (t, flds (mk h t 0 (nfl t)) φ t (jN h t))) (by unfold hrg; simp [Nat.blt_eq, h12]) hq rfl (fun z => absurd h12 (by omega)) _ rfl (by
      rw [cellOf_obj h12]
      refine congrArg (fun z => (Sum.inr (t, z) : va_E)) ?_
      unfold flds
      refine List.map_congr_left fun k hk => ?_
      rw [gf_mk h12 (List.mem_range.mp hk), gf_mk h12 (List.mem_range.mp hk)])
    rw [List.append_nil] at r1
    have := kk _ _ H1 r2 ⟨r1, hK, q1, q2, q3, Rom.phi r2 hR hrom⟩
    rw [if_pos ⟨rfl, rfl⟩] at this
    exact this
theorem s_newa (hx : p.tables.exec = Jvm.exec) (hb : c.code = cc) (hts : ∀ w ∈ lw_good, w.before args s = true) (hw : Wld D A s h φ ws tys H locs) (hA : ∀ q, s.heap.size ≤ q → A q) {at' : ArrayType} {n : Int32} (ht : 0 < atyp at') (hn : ¬ n < 0) (hN : ix n ≤ 100000) (hc : cells + 1 ≤ R.cells) (hs : slots + ix n ≤ R.slots) (hdg : decode cc pc = .ok (.newarray at', 2))
    (kk : ∀ (φ' : Nat → Nat → Nat) (ws' : va_W) (tys' : List (ClassId × FieldType)) (H1 : Heap), (∀ t a, a < jN h t → φ' t a = φ t a) → Wld D A s (mk h (atyp at') (ix n) (ix n)) φ' ws' tys' H1 locs → W p l e R s m args below meth c H1 locs (cells + 1) (slots + ix n) Qw (F0 m (pc + 2) L (.ref (φ' (atyp at') (jN h (atyp at'))) :: rest))) : W p l e R s m args below meth c H locs cells slots Qw (F0 m pc L (.int n :: rest)) := by
  obtain ⟨hR, hK, hP, hD, hS, hrom⟩ := hw
  have key : ∀ (ty : FieldType), newarray.typeOf at' = ty → ty = atf (atyp at') → defaultValue ty = .int 0 → componentBytes ty ≤ 8 → Cond.arrayClass ty ∈ lw_good → 21 ≤ atyp at' → atyp at' < 25 → W p l e R s m args below meth c H locs cells slots Qw (F0 m pc L (.int n :: rest)) := by
    intro ty e1 e2 e3 e4 e5 e6 e7
    refine va_newa (ty := ty) (N' := ix n) (a0 := (ix n, .inl (fun _ => 0))) hx hb (by rw [e1]; exact hts _ e5) e1 hK hP hD hS hA (fun cA => by rw [e3]; rfl) hn rfl (by have := Nat.mul_le_mul hN e4; omega) hc hs hdg (fun q cA H1 q0 q1 q2 q3 => ?_)
    have hq := D_new q2
    obtain ⟨r1, r2⟩ := hR.new (t := atyp at') (q := q) (n := ix n) (sl := ix n) (cA := cA) (ex := [(cA, ty)]) (e := .inl (cA, ix n, .inl (fun _ => 0))) (hrg_int e6 e7) hq rfl (fun z => ⟨tys.length, by rw [List.getElem?_append_right (Nat.le_refl _), Nat.sub_self, e2]; rfl⟩) _ rfl (by
      rw [cellOf_int (by omega) e7, mk_len]
      have : jI (mk h (atyp at') (ix n) (ix n)) (atyp at') (jN h (atyp at')) = fun _ => 0 := funext fun k => mk_I h _ _ _ k
      rw [this])
    have := kk _ _ _ H1 r2 ⟨r1, q0, q1, q2, q3, Rom.phi r2 hR hrom⟩
    rw [if_pos ⟨rfl, rfl⟩] at this
    exact this
  cases at' <;> first | exact absurd ht (by decide) | exact key .int rfl rfl rfl (by decide) arc_int (by decide) (by decide) | exact key .byte rfl rfl rfl (by decide) arc_byte (by decide) (by decide) | exact key .char rfl rfl rfl (by decide) arc_char (by decide) (by decide) | exact key .boolean rfl rfl rfl (by decide) arc_boolean (by decide) (by decide)
theorem s_newq (hx : p.tables.exec = Jvm.exec) (hb : c.code = cc) (hown : s.vm.findClass (cnm own) = some m.cls) (hts : ∀ w ∈ lw_good, w.before args s = true) (hw : Wld D A s h φ ws tys H locs) (hA : ∀ q, s.heap.size ≤ q → A q) {t : Nat} {n : Int32} (hf : clk own idx = some t) (ht : t ∈ [1, 3, 5, 7]) (hn : ¬ n < 0) (hN : ix n ≤ 100000) (hc : cells + 1 ≤ R.cells) (hs : slots + ix n ≤ R.slots) (hdg : decode cc pc = .ok (.anewarray idx, 3))
    (kk : ∀ (φ' : Nat → Nat → Nat) (ws' : va_W) (tys' : List (ClassId × FieldType)) (H1 : Heap), (∀ t a, a < jN h t → φ' t a = φ t a) → Wld D A s (mk h (30 + t) (ix n) (ix n)) φ' ws' tys' H1 locs → W p l e R s m args below meth c H1 locs (cells + 1) (slots + ix n) Qw (F0 m (pc + 3) L (.ref (φ' (30 + t) (jN h (30 + t))) :: rest))) : W p l e R s m args below meth c H locs cells slots Qw (F0 m pc L (.int n :: rest)) := by
  obtain ⟨hR, hK, hP, hD, hS, hrom⟩ := hw
  have h10 : t < 10 := by
    simp only [List.mem_cons, List.not_mem_nil, or_false] at ht
    omega
  obtain ⟨j, hj⟩ := all_zip clk_ok clk_len _ (lk2_mem hf)
  have hcl := wOK_mem hj
  refine va_newq (C := cnm t) (N' := ix n) hx hb hown (hts _ hcl) (hrom.2.2.2.2.2.2.2.2.2 t ht) hK hP hD hS hA hn rfl (by omega) hc hs hdg (fun q cA H1 q0 q1 q2 q3 => ?_)
  have hq := D_new q2
  obtain ⟨r1, r2⟩ := hR.new (t := 30 + t) (q := q) (n := ix n) (sl := ix n) (cA := cA) (ex := [(cA, .object (cnm t))]) (e := .inl (cA, ix n, .inr (.inr (.inr (.inr (fun _ => none)))))) (hrg_ref (by omega) (by omega)) hq rfl (fun z => ⟨tys.length, by rw [List.getElem?_append_right (Nat.le_refl _), Nat.sub_self, atf_ref (by omega), Nat.add_sub_cancel_left]; rfl⟩) _ rfl (by
    rw [cellOf_ref (by omega), mk_len]
    have : (fun k => (jR (mk h (30 + t) (ix n) (ix n)) (30 + t) (jN h (30 + t)) k).map ((fun t' a' => if t' = 30 + t ∧ a' = jN h (30 + t) then q else φ t' a') (30 + t - 30))) = fun _ => none := funext fun k => by rw [mk_R]; rfl
    rw [this])
  have := kk _ _ _ H1 r2 ⟨r1, q0, q1, q2, q3, Rom.phi r2 hR hrom⟩
  rw [if_pos ⟨rfl, rfl⟩] at this
  exact this
end SND4
