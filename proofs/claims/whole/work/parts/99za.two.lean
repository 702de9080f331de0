/-! two worlds in one heap: the class's and the reference's -/
def Dj (ws vs : va_W) : Prop := ∀ (i j : Nat) (p q : Nat × va_E), ws[i]? = some p → vs[j]? = some q → p.1 ≠ q.1
theorem Dj.symm {ws vs : va_W} (h : Dj ws vs) : Dj vs ws := fun i j p q hp hq e => h j i q p hq hp e.symm
section TWO
variable {p : Program} {l : Launch} {e : Env} {R : Room} {s : State} {m : MethodId} {args : Array Value} {below : List Frame} {meth : Method} {c : Code} {H : Heap} {locs : List Loc} {cells slots : Nat} {Qw : State → Prop}
variable {cc : ByteArray} {A : Nat → Prop} {φ ψ : Nat → Nat → Nat} {L : Array Slot} {own : String} {pc idx nL : Nat} {h g : Hp} {ws vs : va_W} {tys uys : List (ClassId × FieldType)} {D : va_G}
/-- the world that a call doesn't touch -/
theorem two_kept (hw2 : Wld D A s g ψ vs uys H locs) (hdj : Dj ws vs) {st t : State} {H1 : Heap} {locs1 : List Loc} (hst : st.heap = H) (ht : t.heap = H1) (hF : va_F (va_A ws H.size) st t) (hS1 : va_S A s.heap H1 locs1) : Wld D A s g ψ vs uys H1 locs1 := by
  obtain ⟨hR, hK, hP, hD, hS, hrom⟩ := hw2
  refine ⟨hR, hK, hP.kept (fun k q hk => ?_), hD, hS1, hrom⟩
  have hlt := (hP k q hk).lt
  rw [← ht, ← hst]
  refine hF.2 q.1 (by rw [hst]; exact hlt) ?_
  rintro (⟨k', e', hk'⟩ | hge)
  · exact hdj k' k _ q hk' hk rfl
  · omega
theorem two_dj {ws' : va_W} (hw2 : Wld D A s g ψ vs uys H locs) (hdj : Dj ws vs) (hD' : va_D (va_A ws H.size) ws') : Dj ws' vs := by
  intro i j p q hp hq e
  have hlt := (hw2.2.2.1 j q hq).lt
  rcases hD'.2 i p hp with ⟨k', e', hk'⟩ | hge
  · exact hdj k' j _ q hk' hq e
  · omega
theorem two_fr (hw : Wld D A s h φ ws tys H locs) (hA : ∀ q, s.heap.size ≤ q → A q) : ∀ q, va_A ws H.size q → A q := by
  obtain ⟨hR, hK, hP, hD, hS, hrom⟩ := hw
  intro q hq
  rcases hq with ⟨k, e, hk⟩ | hq
  · exact hD.2 k _ hk
  · exact hA q (Nat.le_trans hS.1 hq)
/-- behind a call of one of the two -/
theorem two_back (hw : Wld D A s h φ ws tys H locs) (hw2 : Wld D A s g ψ vs uys H locs) (hdj : Dj ws vs) (hA : ∀ q, s.heap.size ≤ q → A q) {h2 : Hp} {v1 : Option AV} {a : Array Value} {st0 rest : List Value}
    (hr : va_Run p l e R s m args below meth c H locs cells slots (jC h2 - jC h) (jZ h2 - jZ h) (F0 m pc L st0) rest (QcA D h φ ws H.size v1 h2 a) (va_A ws H.size))
    (kk : ∀ (φ' : Nat → Nat → Nat) (ws' : va_W) (tys' : List (ClassId × FieldType)) (H1 : Heap) (locs1 : List Loc), (∀ t a, a < jN h t → φ' t a = φ t a) → Wld D A s h2 φ' ws' tys' H1 locs1 → Wld D A s g ψ vs uys H1 locs1 → Dj ws' vs → W p l e R s m args below meth c H1 locs1 (cells + (jC h2 - jC h)) (slots + (jZ h2 - jZ h)) Qw (F0 m (pc + 3) L ((v1.map (trv φ')).toList ++ rest))) : W p l e R s m args below meth c H locs cells slots Qw (F0 m pc L st0) := by
  have hfr := two_fr hw hA
  have hw0 := hw
  obtain ⟨hR, hK, hP, hD, hS, hrom⟩ := hw
  refine s_call hr hS hfr (fun v st t h0 hq => hq.2) ?_
  rintro v st t H1 locs1 ht hal hst ⟨⟨ws', tys', φ', hv, hvr, hR', he, hK', hP', hD'⟩, hF⟩ hS1
  cases hv
  exact kk φ' ws' tys' H1 locs1 he ⟨hR', va_K.moved hal.symm hK', by rw [← ht]; exact hP', hD'.weaken (fun k q _ z => hfr q.1 z), hS1, Rom.phi he hR hrom⟩ (two_kept hw2 hdj hst ht hF hS1) (two_dj hw2 hdj hD')
/-- a public method of one of the two, called by the law -/
theorem two_v (hx : p.tables.exec = Jvm.exec) (hb : c.code = cc) (hml : c.maxLocals = nL) (hown : s.vm.findClass own = some m.cls) (hts : ∀ w ∈ lw_good, w.before args s = true) (hw : Wld D A s h φ ws tys H locs) (hw2 : Wld D A s g ψ vs uys H locs) (hdj : Dj ws vs) (hA : ∀ q, s.heap.size ≤ q → A q) {d y o : Nat} (hy : y < 239) (ho : mOw y = o) (hki : mKi y = 1) (h12 : o < 12) (hlk : Cond.methodLink own idx (mNm y) ∈ lw_good) {as : List Int32} (hpa : as.length = mPa y) (hwt : as.length + 1 ≤ mLo y) (ha : 0 < jN h o) {K : Int32 → Hp → Prop} (hC : CI d y (vR o (some 0) :: as.map vI) h K)
    (hRf : d + 3 ≤ R.frames) (hRl : 64 * d + 300 ≤ R.locals) (hroom : ∀ x h2, K x h2 → cells + (jC h2 - jC h) ≤ R.cells ∧ slots + (jZ h2 - jZ h) ≤ R.slots) (hsize : L.size = nL) {rest : List Value} (hrest : (rest.map fun v => v.category).sum ≤ 8) (hdg : decode cc pc = .ok (.invokevirtual idx, 3))
    (kk : ∀ (x : Int32) (h2 : Hp) (φ' : Nat → Nat → Nat) (ws' : va_W) (tys' : List (ClassId × FieldType)) (H1 : Heap) (locs1 : List Loc), K x h2 → hle h h2 → (∀ t a, a < jN h t → φ' t a = φ t a) → Wld D A s h2 φ' ws' tys' H1 locs1 → Wld D A s g ψ vs uys H1 locs1 → Dj ws' vs → W p l e R s m args below meth c H1 locs1 (cells + (jC h2 - jC h)) (slots + (jZ h2 - jZ h)) Qw (F0 m (pc + 3) L (.int x :: rest))) : W p l e R s m args below meth c H locs cells slots Qw (F0 m pc L ((as.map Value.int).reverse ++ .ref (φ o 0) :: rest)) := by
  subst ho
  obtain ⟨v1, h2, l1, ⟨x, rfl, hs⟩, hc1⟩ := Call_det d y _ h _ hC
  obtain ⟨c1, -, c3, -, -, c6, -, c8, c9⟩ := chkM_parts hy
  obtain ⟨c31, c32, c33⟩ := c3 hki
  have hva : ∀ v ∈ (vR (mOw y) (some 0) :: as.map vI : List AV), vok h v := by
    intro v hv
    rcases List.mem_cons.mp hv with rfl | hv
    · exact ha
    · obtain ⟨z, -, rfl⟩ := List.mem_map.mp hv
      trivial
  have hwt2 : ∀ as : List Int32, wt (as.map vI) = as.length := by
    intro as
    induction as with
    | nil => rfl
    | cons a r ih => show wt (r.map vI) + 1 = r.length + 1; rw [ih]
  have hmp : ∀ as : List Int32, (as.map vI).map (trv φ) = as.map Value.int := fun as => by
    rw [List.map_map]; rfl
  have M := sound l d y _ h _ h2 hy (by show wt (as.map vI) + 1 ≤ _; rw [hwt2]; exact hwt) hc1 D ws tys φ H.size hw.1 hva
  have hrecv : ∃ cellB : Cell, H[φ (mOw y) 0]? = some cellB ∧ cellB.vm.isStatics = false ∧ s.vm.findClass (mNm y).cls = some cellB.cls := by
    rw [← c9]
    obtain ⟨i, cA, hi2, -⟩ := hw.1.1 (mOw y) 0 (by unfold hrg; simp [Nat.blt_eq, h12]) ha
    rw [cellOf_obj h12] at hi2
    exact va_recv hw.2.1 hw.2.2.1 (cls_at _ h12) hi2
  have hro := hroom x h2 hs
  have hpre := pre_A (as' := vR (mOw y) (some 0) :: as.map vI) hw hA
  rw [show (vR (mOw y) (some 0) :: as.map vI : List AV).map (trv φ) = .ref (φ (mOw y) 0) :: as.map Value.int from congrArg (Value.ref (φ (mOw y) 0) :: ·) (hmp as)] at hpre
  refine two_back (a := (Value.ref (φ (mOw y) 0) :: as.map Value.int).toArray) hw hw2 hdj hA (va_runV (C := (mNm y).cls) (As := as.map Value.int) (Ts := lw_good) ⟨hx, hb, hml, hown, hts⟩ M ⟨callB_of (mPa y) hts (good_TW hy) rfl rfl rfl (hts _ c1) (hts _ hlk) c8 ⟨by show d + 2 + 1 ≤ _; omega, by show 8 + (mLo y + 11) + (64 * d + 192) ≤ _; omega⟩, hts _ c31, hts _ c32⟩ ⟨PcA_blind, hrecv, hpre⟩ rfl (by rw [List.length_map]; exact hpa) hsize rfl (lv_room hrest) hdg hro) (fun φ' ws' tys' H1 locs1 q1 q2 q3 q4 => kk x h2 φ' ws' tys' H1 locs1 hs l1 q1 q2 q3 q4)
/-- a constructor without arguments, called by the law -/
theorem two_i (hx : p.tables.exec = Jvm.exec) (hb : c.code = cc) (hml : c.maxLocals = nL) (hown : s.vm.findClass own = some m.cls) (hts : ∀ w ∈ lw_good, w.before args s = true) (hw : Wld D A s h φ ws tys H locs) (hw2 : Wld D A s g ψ vs uys H locs) (hdj : Dj ws vs) (hA : ∀ q, s.heap.size ≤ q → A q) {d y o : Nat} (hy : y < 239) (ho : mOw y = o) (hki : mKi y = 2) (hlk : Cond.methodLink own idx (mNm y) ∈ lw_good) (hpa : 0 = mPa y) (hwt : 1 ≤ mLo y) (ha : 0 < jN h o) {K : Hp → Prop} (hC : CV d y [vR o (some 0)] h K)
    (hRf : d + 3 ≤ R.frames) (hRl : 64 * d + 300 ≤ R.locals) (hroom : ∀ h2, K h2 → cells + (jC h2 - jC h) ≤ R.cells ∧ slots + (jZ h2 - jZ h) ≤ R.slots) (hsize : L.size = nL) {rest : List Value} (hrest : (rest.map fun v => v.category).sum ≤ 8) (hdg : decode cc pc = .ok (.invokespecial idx, 3))
    (kk : ∀ (h2 : Hp) (φ' : Nat → Nat → Nat) (ws' : va_W) (tys' : List (ClassId × FieldType)) (H1 : Heap) (locs1 : List Loc), K h2 → hle h h2 → (∀ t a, a < jN h t → φ' t a = φ t a) → Wld D A s h2 φ' ws' tys' H1 locs1 → Wld D A s g ψ vs uys H1 locs1 → Dj ws' vs → W p l e R s m args below meth c H1 locs1 (cells + (jC h2 - jC h)) (slots + (jZ h2 - jZ h)) Qw (F0 m (pc + 3) L rest)) : W p l e R s m args below meth c H locs cells slots Qw (F0 m pc L (.ref (φ o 0) :: rest)) := by
  subst ho
  obtain ⟨v1, h2, l1, ⟨rfl, hs⟩, hc1⟩ := Call_det d y _ h _ hC
  obtain ⟨c1, -, -, c4, -, c6, -, c8, c9⟩ := chkM_parts hy
  obtain ⟨c41, c42, c43, c44⟩ := c4 hki
  have hva : ∀ v ∈ ([vR (mOw y) (some 0)] : List AV), vok h v := by
    intro v hv
    rcases List.mem_cons.mp hv with rfl | hv
    · exact ha
    · cases hv
  have M := sound l d y _ h _ h2 hy (by show 0 + 1 ≤ _; exact hwt) hc1 D ws tys φ H.size hw.1 hva
  have hro := hroom h2 hs
  have hTW : TW y = Cond.code (mNm y) (mBy y) (mLo y) none :: lw_good := by unfold TW; rw [c43]
  have hpre := pre_A (as' := [vR (mOw y) (some 0)]) hw hA
  refine two_back (a := #[Value.ref (φ (mOw y) 0)]) hw hw2 hdj hA (va_runI (As := []) (Ts := lw_good) ⟨hx, hb, hml, hown, hts⟩ M ⟨callB_of (mPa y) hts (good_TW hy) hTW rfl rfl (hts _ c1) (hts _ hlk) c8 ⟨by show d + 2 + 1 ≤ _; omega, by show 8 + (mLo y + 11) + (64 * d + 192) ≤ _; omega⟩, c42, hts _ c41⟩ ⟨PcA_blind, hpre⟩ rfl hpa hsize rfl (lv_room hrest) hdg hro) (fun φ' ws' tys' H1 locs1 q1 q2 q3 q4 => kk h2 φ' ws' tys' H1 locs1 hs l1 q1 q2 q3 q4)
/-- a new object in one of the two -/
theorem two_new (hx : p.tables.exec = Jvm.exec) (hb : c.code = cc) (hown : s.vm.findClass own = some m.cls) (hts : ∀ w ∈ lw_good, w.before args s = true) (hw : Wld D A s h φ ws tys H locs) (hw2 : Wld D A s g ψ vs uys H locs) (hdj : Dj ws vs) (hA : ∀ q, s.heap.size ≤ q → A q) {t : Nat} (h12 : t < 12) (hcl : Cond.classLink own idx (cnm t) ∈ lw_good) (hc : cells + 1 ≤ R.cells) (hs : slots + nfl t ≤ R.slots) {rest : List Value} (hdg : decode cc pc = .ok (.new idx, 3))
    (kk : ∀ (φ' : Nat → Nat → Nat) (ws' : va_W) (H1 : Heap), (∀ t a, a < jN h t → φ' t a = φ t a) → Wld D A s (mk h t 0 (nfl t)) φ' ws' tys H1 locs → Wld D A s g ψ vs uys H1 locs → Dj ws' vs → W p l e R s m args below meth c H1 locs (cells + 1) (slots + nfl t) Qw (F0 m (pc + 3) L (.ref (φ' t (jN h t)) :: rest))) : W p l e R s m args below meth c H locs cells slots Qw (F0 m pc L rest) := by
  obtain ⟨hR, hK, hP, hD, hS, hrom⟩ := hw
  obtain ⟨hR2, hK2, hP2, hD2, hS2, hrom2⟩ := hw2
  have hi := List.all_eq_true.mp chkI_ok t (List.mem_range.mpr h12)
  unfold chkI at hi
  simp only [Bool.and_eq_true] at hi
  refine va_new (C := cnm t) (T := TRs t) (N := nfl t) (ci := t) (fs := flds (mk h t 0 (nfl t)) φ t (jN h t)) hx hb hts (lay_in h12) (tyRs t) (ty_at h12) hown (hts _ hcl) (hts _ (wOK_mem hi.1)) (hts _ (wOK_mem hi.2)) hK (hP.app hP2) (hD.app hD2 hdj) hS hA (cls_at t h12) (fun j hj => ?_) hc hs hdg (fun q H1 q1 q2 q3 => ?_)
  · show _ = (flds (mk h t 0 (nfl t)) φ t (jN h t)).getD j .null
    rw [List.getD_eq_getElem?_getD, flds_at hj]
    exact (gf_mk h12 hj).symm
  · have q1 := q1.swap
    have q2 := q2.swap
    have hleft : ∀ (a b : va_W) (k : Nat) (x : Nat × va_E), a[k]? = some x → (a ++ b)[k]? = some x := fun a b k x hk => by
      rw [List.getElem?_append_left (List.getElem?_eq_some_iff.mp hk).1]; exact hk
    have hright : ∀ (a b : va_W) (k : Nat) (x : Nat × va_E), b[k]? = some x → (a ++ b)[a.length + k]? = some x := fun a b k x hk => by
      rw [List.getElem?_append_right (Nat.le_add_right _ _), Nat.add_sub_cancel_left]; exact hk
    have p1 : va_P D clsL (ws ++ [(q, .inr (t, flds (mk h t 0 (nfl t)) φ t (jN h t)))]) H1 := fun k x hk => q1 k x (hleft _ _ k x hk)
    have p2 : va_P D clsL vs H1 := fun k x hk => q1 _ x (hright _ _ k x hk)
    have d1 : va_D A (ws ++ [(q, .inr (t, flds (mk h t 0 (nfl t)) φ t (jN h t)))]) := ⟨fun i j x y hx hy => q2.1 i j x y (hleft _ _ i x hx) (hleft _ _ j y hy), fun k x hk => q2.2 k x (hleft _ _ k x hk)⟩
    have dj : Dj (ws ++ [(q, .inr (t, flds (mk h t 0 (nfl t)) φ t (jN h t)))]) vs := by
      intro i j x y hx hy e
      have hlt := (List.getElem?_eq_some_iff.mp hx).1
      have := q2.1 i _ x y (hleft _ _ i x hx) (hright _ _ j y hy) e
      omega
    have hq := D_new d1
    obtain ⟨r1, r2⟩ := hR.new (t := t) (q := q) (n := 0) (sl := nfl t) (cA := 0) (ex := []) (e := .inr (t, flds (mk h t 0 (nfl t)) φ t (jN h t))) (by unfold hrg; simp [Nat.blt_eq, h12]) hq rfl (fun z => absurd h12 (by omega)) _ rfl (by
      rw [cellOf_obj h12]
      refine congrArg (fun z => (Sum.inr (t, z) : va_E)) ?_
      unfold flds
      refine List.map_congr_left fun k hk => ?_
      rw [gf_mk h12 (List.mem_range.mp hk), gf_mk h12 (List.mem_range.mp hk)])
    rw [List.append_nil] at r1
    have := kk _ _ H1 r2 ⟨r1, hK, p1, d1, q3, Rom.phi r2 hR hrom⟩ ⟨hR2, hK2, p2, hD2, q3, hrom2⟩ dj
    rw [if_pos ⟨rfl, rfl⟩] at this
    exact this
end TWO
