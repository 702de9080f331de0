/-! THE WALK of any method: each step of the abstract machine is the machine's -/
def SP (p : Program) (l : Launch) (e : Env) (s : State) (m : MethodId) (args : Array Value) (below : List Frame) (meth : Method) (c : Code) (A : Nat → Prop) (D : va_G) (R : Room) (Qw : State → Prop) (y : Nat) (h0 : Hp) (φ0 : Nat → Nat → Nat) (h1 : Hp) (pc : Nat) (ls st : List AV) (hh : Hp) : Prop :=
  hle hh h1 ∧ ∀ (ws : va_W) (tys : List (ClassId × FieldType)) (φ : Nat → Nat → Nat) (H : Heap) (locs : List Loc) (L : Array Slot), Wld D A s hh φ ws tys H locs → hle h0 hh → (∀ t a, a < jN h0 t → φ t a = φ0 t a) → (∀ v ∈ ls, vok hh v) → (∀ v ∈ st, vok hh v) → ls.length = mLo y → lv_has L (mLo y) (prl φ 0 ls) → W p l e R s m args below meth c H locs (jC hh - jC h0) (jZ hh - jZ h0) Qw (F0 m pc L (st.map (trv φ)))
section WALK
variable {p : Program} {l : Launch} {e : Env} {s : State} {m : MethodId} {args : Array Value} {below : List Frame} {meth : Method} {c : Code} {A : Nat → Prop} {D : va_G} {R : Room} {Qw : State → Prop} {y : Nat} {h0 h1 : Hp} {φ0 : Nat → Nat → Nat}
/-- behind a step that makes a cell -/
theorem SP.made {pc : Nat} {ls st : List AV} {hh h' : Hp} {v : AV} {n sl : Nat} (hs : SP p l e s m args below meth c A D R Qw y h0 φ0 h1 pc ls (v :: st) h') (hle0 : hle h0 hh) (hj : jC h' = jC hh + 1) (hz : jZ h' = jZ hh + sl) (hl1 : hle hh h') (hv : vok h' v) {ws : va_W} {tys : List (ClassId × FieldType)} {φ φ' : Nat → Nat → Nat} {H : Heap} {locs : List Loc} {L : Array Slot} (hext : ∀ t a, a < jN h0 t → φ t a = φ0 t a) (he : ∀ t a, a < jN hh t → φ' t a = φ t a) (hw : Wld D A s h' φ' ws tys H locs) (hvl : ∀ v ∈ ls, vok hh v) (hvs : ∀ v ∈ st, vok hh v) (hlen : ls.length = mLo y) (hl : lv_has L (mLo y) (prl φ 0 ls)) : W p l e R s m args below meth c H locs (jC hh - jC h0 + 1) (jZ hh - jZ h0 + sl) Qw (F0 m pc L (trv φ' v :: st.map (trv φ))) := by
  have h2 := hle0.2.1
  have h3 := hle0.2.2
  refine W.cs (cells' := jC h' - jC h0) (slots' := jZ h' - jZ h0) (by omega) (by omega) ?_
  rw [← map_ext he hvs]
  exact hs.2 ws tys φ' H locs L hw (hle0.tr hl1) (fun t a z => (he t a (Nat.lt_of_lt_of_le z (hle0.1 t))).trans (hext t a z)) (vok_hle hl1 hvl) (vok_cons hv (vok_hle hl1 hvs)) hlen (by rw [prl_ext he hvl]; exact hl)
/-- behind a call -/
theorem SP.back {d y' pc : Nat} {ls r : List AV} {hh h2 : Hp} {v1 : Option AV} {as' : List AV} (hy' : y' < 239) (hs : SP p l e s m args below meth c A D R Qw y h0 φ0 h1 (pc + 3) ls (cons? v1 r) h2) (hle0 : hle h0 hh) (hl1 : hle hh h2) {ws : va_W} {tys : List (ClassId × FieldType)} {φ : Nat → Nat → Nat} {H : Heap} {locs : List Loc} {L : Array Slot} {st0 : List Value} (hext : ∀ t a, a < jN h0 t → φ t a = φ0 t a) (hw : Wld D A s hh φ ws tys H locs) (hA : ∀ q, s.heap.size ≤ q → A q) (hvl : ∀ v ∈ ls, vok hh v) (hvs : ∀ v ∈ r, vok hh v) (hlen : ls.length = mLo y) (hl : lv_has L (mLo y) (prl φ 0 ls)) {a : Array Value}
    (hr : va_Run p l e R s m args below meth c H locs (jC hh - jC h0) (jZ hh - jZ h0) (jC h2 - jC hh) (jZ h2 - jZ hh) (F0 m pc L st0) (r.map (trv φ)) (QcA D hh φ ws H.size v1 h2 a) (va_A ws H.size)) : W p l e R s m args below meth c H locs (jC hh - jC h0) (jZ hh - jZ h0) Qw (F0 m pc L st0) := by
  obtain ⟨hR, hK, hP, hD, hS, hrom⟩ := hw
  have hfr : ∀ q, va_A ws H.size q → A q := by
    intro q hq
    rcases hq with ⟨k, e, hk⟩ | hq
    · exact hD.2 k _ hk
    · exact hA q (Nat.le_trans hS.1 hq)
  refine s_call hr hS hfr (fun v st t h0 hq => hq.2) ?_
  rintro v st t H1 locs1 ht hal hst ⟨⟨ws', tys', φ', hv, hvr, hR', he, hK', hP', hD'⟩, -⟩ hS1
  cases hv
  have a1 := hle0.2.1
  have a2 := hle0.2.2
  have a3 := hl1.2.1
  have a4 := hl1.2.2
  refine W.cs (cells' := jC h2 - jC h0) (slots' := jZ h2 - jZ h0) (by omega) (by omega) ?_
  have hst1 : (v1.map (trv φ')).toList ++ r.map (trv φ) = (cons? v1 r).map (trv φ') := by
    rw [← map_ext he hvs]
    cases v1 <;> rfl
  rw [hst1]
  refine hs.2 ws' tys' φ' H1 locs1 L ⟨hR', va_K.moved hal.symm hK', by rw [← ht]; exact hP', hD'.weaken (fun k q _ z => hfr q.1 z), hS1, Rom.phi he hR hrom⟩ (hle0.tr hl1) (fun t a z => (he t a (Nat.lt_of_lt_of_le z (hle0.1 t))).trans (hext t a z)) (vok_hle hl1 hvl) ?_ hlen (by rw [prl_ext he hvl]; exact hl)
  cases v1 with
  | none => exact vok_hle hl1 hvs
  | some v => exact vok_cons (hvr v rfl) (vok_hle hl1 hvs)
/-- the callee's start -/
theorem pre_A {hh : Hp} {φ : Nat → Nat → Nat} {ws : va_W} {tys : List (ClassId × FieldType)} {H : Heap} {locs : List Loc} {as' : List AV} (hw : Wld D A s hh φ ws tys H locs) (hA : ∀ q, s.heap.size ≤ q → A q) : ∀ U : State, U.heap = H → s.WarmedH U.vm → PcA D φ ws tys H.size as' (as'.map (trv φ)).toArray U := by
  intro U hU hW
  obtain ⟨hR, hK, hP, hD, hS, hrom⟩ := hw
  refine ⟨rfl, by rw [hU], va_K.moved hW.alike hK, by rw [hU]; exact hP, hD.weaken (fun _ _ _ _ => trivial), hrom.to hS hW hU ?_⟩
  intro q hq
  rcases hq with ⟨k, e, hk⟩ | hq
  · exact hD.2 k _ hk
  · exact hA q (Nat.le_trans hS.1 hq)
end WALK
