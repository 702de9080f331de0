/-! what the walk of a method needs: values stay good, calls come back -/
theorem vok_gt {h : Hp} {ls : List AV} (hv : ∀ v ∈ ls, vok h v) {k : Nat} {v : AV} (hg : gt ls k = some v) : vok h v := by
  induction ls generalizing k with
  | nil => cases hg
  | cons a r ih =>
    cases k with
    | zero => cases hg; exact hv _ List.mem_cons_self
    | succ k => exact ih (fun v hv' => hv v (List.mem_cons_of_mem _ hv')) hg
theorem vok_stt {h : Hp} {ls : List AV} (hv : ∀ v ∈ ls, vok h v) (k : Nat) {w : AV} (hw : vok h w) : ∀ v ∈ stt ls k w, vok h v := by
  induction ls generalizing k with
  | nil => intro v hv'; cases hv'
  | cons a r ih =>
    cases k with
    | zero =>
      intro v hv'
      rcases List.mem_cons.mp hv' with rfl | hv'
      · exact hw
      · exact hv v (List.mem_cons_of_mem _ hv')
    | succ k =>
      intro v hv'
      rcases List.mem_cons.mp hv' with rfl | hv'
      · exact hv v List.mem_cons_self
      · exact ih (fun v z => hv v (List.mem_cons_of_mem _ z)) k v hv'
theorem vok_cons {h : Hp} {st : List AV} {w : AV} (hw : vok h w) (hv : ∀ v ∈ st, vok h v) : ∀ v ∈ w :: st, vok h v := by
  intro v hv'
  rcases List.mem_cons.mp hv' with rfl | hv'
  · exact hw
  · exact hv v hv'
theorem vok_tl {h : Hp} {st : List AV} {w : AV} (hv : ∀ v ∈ w :: st, vok h v) : ∀ v ∈ st, vok h v := fun v z => hv v (List.mem_cons_of_mem _ z)
theorem vok_st1 {h : Hp} {ls ls' : List AV} (hv : ∀ v ∈ ls, vok h v) {k : Nat} {w : AV} (hw : vok h w) (hs : st1 ls k w = some ls') : ∀ v ∈ ls', vok h v := by
  rw [(st1_lt hs).2]; exact vok_stt hv k hw
set_option maxHeartbeats 4000000 in
theorem step1_vok {h : Hp} (n0 : jN h 40 = 34) (n2 : jN h 42 = 3) {own pc : Nat} {i : Instr} {ls st : List AV} {q : Nat × List AV × List AV} (h1 : step1 own i pc ls st = some q) (hl : ∀ v ∈ ls, vok h v) (hs : ∀ v ∈ st, vok h v) : (∀ v ∈ q.2.1, vok h v) ∧ ∀ v ∈ q.2.2, vok h v := by
  cases i
  case aconst_null => cases h1; exact ⟨hl, vok_cons trivial hs⟩
  case iconst n => cases h1; exact ⟨hl, vok_cons trivial hs⟩
  case bipush n => cases h1; exact ⟨hl, vok_cons trivial hs⟩
  case sipush n => cases h1; exact ⟨hl, vok_cons trivial hs⟩
  case lconst n => cases h1; exact ⟨hl, vok_cons trivial hs⟩
  case ldc k =>
    obtain ⟨w, hw, rfl⟩ := push_ex h1
    obtain ⟨id, hi, rfl⟩ := ldcv_ex hw
    have := List.all_eq_true.mp (show strL.all (fun q => Nat.blt q.2.2 34) = true by decide +kernel) _ (lk2_mem hi)
    exact ⟨hl, vok_cons (show id < jN h 40 by rw [n0]; exact Nat.blt_eq.mp this) hs⟩
  case ldc2_w k =>
    obtain ⟨w, hw, rfl⟩ := push_ex h1
    obtain ⟨x, hm, rfl⟩ := ldjv_ex hw
    exact ⟨hl, vok_cons trivial hs⟩
  case getstatic k =>
    obtain ⟨w, hw, rfl⟩ := push_ex h1
    rcases gstv_ex hw with ⟨rfl, rfl, rfl⟩ | ⟨rfl, rfl, rfl⟩ | ⟨rfl, rfl, rfl⟩ | ⟨rfl, rfl, rfl⟩
    · exact ⟨hl, vok_cons (show 0 < jN h 42 by rw [n2]; decide) hs⟩
    · exact ⟨hl, vok_cons (show 1 < jN h 42 by rw [n2]; decide) hs⟩
    · exact ⟨hl, vok_cons (show 2 < jN h 42 by rw [n2]; decide) hs⟩
    · exact ⟨hl, vok_cons trivial hs⟩
  case iload k => obtain ⟨w, hw, rfl⟩ := push_ex h1; obtain ⟨x, rfl, hg⟩ := ldI_ex hw; exact ⟨hl, vok_cons trivial hs⟩
  case iload_n k => obtain ⟨w, hw, rfl⟩ := push_ex h1; obtain ⟨x, rfl, hg⟩ := ldI_ex hw; exact ⟨hl, vok_cons trivial hs⟩
  case lload k => obtain ⟨w, hw, rfl⟩ := push_ex h1; obtain ⟨x, rfl, hg⟩ := ldJ_ex hw; exact ⟨hl, vok_cons trivial hs⟩
  case lload_n k => obtain ⟨w, hw, rfl⟩ := push_ex h1; obtain ⟨x, rfl, hg⟩ := ldJ_ex hw; exact ⟨hl, vok_cons trivial hs⟩
  case aload k => obtain ⟨w, hw, rfl⟩ := push_ex h1; obtain ⟨t, o, rfl, hg, hu⟩ := ldA_ex hw; exact ⟨hl, vok_cons (vok_gt hl hg) hs⟩
  case aload_n k => obtain ⟨w, hw, rfl⟩ := push_ex h1; obtain ⟨t, o, rfl, hg, hu⟩ := ldA_ex hw; exact ⟨hl, vok_cons (vok_gt hl hg) hs⟩
  case istore k => obtain ⟨x, r, l', rfl, hz, rfl⟩ := toI_ex h1; exact ⟨vok_st1 (w := .inl x) hl trivial hz, vok_tl hs⟩
  case istore_n k => obtain ⟨x, r, l', rfl, hz, rfl⟩ := toI_ex h1; exact ⟨vok_st1 (w := .inl x) hl trivial hz, vok_tl hs⟩
  case lstore k => obtain ⟨x, r, l', rfl, hz, rfl⟩ := toJ_ex h1; exact ⟨by rw [(st2_lt hz).2]; exact vok_stt (vok_stt (w := .inr (.inl x)) hl k trivial) (k + 1) trivial, vok_tl hs⟩
  case lstore_n k => obtain ⟨x, r, l', rfl, hz, rfl⟩ := toJ_ex h1; exact ⟨by rw [(st2_lt hz).2]; exact vok_stt (vok_stt (w := .inr (.inl x)) hl k trivial) (k + 1) trivial, vok_tl hs⟩
  case astore k => obtain ⟨t, o, r, l', rfl, hz, rfl⟩ := toA_ex h1; exact ⟨vok_st1 hl (hs _ List.mem_cons_self) hz, vok_tl hs⟩
  case astore_n k => obtain ⟨t, o, r, l', rfl, hz, rfl⟩ := toA_ex h1; exact ⟨vok_st1 hl (hs _ List.mem_cons_self) hz, vok_tl hs⟩
  case iinc k n =>
    dsimp only [step1] at h1
    split at h1
    · rename_i x hg
      obtain ⟨l', hz, e2⟩ := Option.map_eq_some_iff.mp h1
      subst e2
      exact ⟨vok_st1 (w := .inl (x + Int32.ofInt n)) hl trivial hz, hs⟩
    · cases h1
  case iadd => obtain ⟨x, y, r, rfl, rfl⟩ := bI_ex h1; exact ⟨hl, vok_cons trivial (vok_tl (vok_tl hs))⟩
  case isub => obtain ⟨x, y, r, rfl, rfl⟩ := bI_ex h1; exact ⟨hl, vok_cons trivial (vok_tl (vok_tl hs))⟩
  case imul => obtain ⟨x, y, r, rfl, rfl⟩ := bI_ex h1; exact ⟨hl, vok_cons trivial (vok_tl (vok_tl hs))⟩
  case iand => obtain ⟨x, y, r, rfl, rfl⟩ := bI_ex h1; exact ⟨hl, vok_cons trivial (vok_tl (vok_tl hs))⟩
  case ior => obtain ⟨x, y, r, rfl, rfl⟩ := bI_ex h1; exact ⟨hl, vok_cons trivial (vok_tl (vok_tl hs))⟩
  case ishr => obtain ⟨x, y, r, rfl, rfl⟩ := bI_ex h1; exact ⟨hl, vok_cons trivial (vok_tl (vok_tl hs))⟩
  case iushr => obtain ⟨x, y, r, rfl, rfl⟩ := bI_ex h1; exact ⟨hl, vok_cons trivial (vok_tl (vok_tl hs))⟩
  case ineg => obtain ⟨x, r, rfl, rfl⟩ := uI_ex h1; exact ⟨hl, vok_cons trivial (vok_tl hs)⟩
  case i2b => obtain ⟨x, r, rfl, rfl⟩ := uI_ex h1; exact ⟨hl, vok_cons trivial (vok_tl hs)⟩
  case i2c => obtain ⟨x, r, rfl, rfl⟩ := uI_ex h1; exact ⟨hl, vok_cons trivial (vok_tl hs)⟩
  case land => obtain ⟨x, y, r, rfl, rfl⟩ := bJ_ex h1; exact ⟨hl, vok_cons trivial (vok_tl (vok_tl hs))⟩
  case lor => obtain ⟨x, y, r, rfl, rfl⟩ := bJ_ex h1; exact ⟨hl, vok_cons trivial (vok_tl (vok_tl hs))⟩
  case lshl => obtain ⟨x, y, r, rfl, rfl⟩ := shJ_ex h1; exact ⟨hl, vok_cons trivial (vok_tl (vok_tl hs))⟩
  case lshr => obtain ⟨x, y, r, rfl, rfl⟩ := shJ_ex h1; exact ⟨hl, vok_cons trivial (vok_tl (vok_tl hs))⟩
  case lcmp =>
    dsimp only [step1] at h1
    split at h1
    · cases h1; exact ⟨hl, vok_cons trivial (vok_tl (vok_tl hs))⟩
    · cases h1
  case i2l =>
    dsimp only [step1] at h1
    split at h1
    · cases h1; exact ⟨hl, vok_cons trivial (vok_tl hs)⟩
    · cases h1
  case l2i =>
    dsimp only [step1] at h1
    split at h1
    · cases h1; exact ⟨hl, vok_cons trivial (vok_tl hs)⟩
    · cases h1
  case dup =>
    dsimp only [step1] at h1
    split at h1
    · cases h1; exact ⟨hl, vok_cons trivial hs⟩
    · cases h1; exact ⟨hl, vok_cons (hs _ List.mem_cons_self) hs⟩
    · cases h1
  case dup2 =>
    dsimp only [step1] at h1
    split at h1
    · cases h1; exact ⟨hl, vok_cons trivial (vok_cons (hs _ (List.mem_cons_of_mem _ List.mem_cons_self)) hs)⟩
    · cases h1
  case pop =>
    dsimp only [step1] at h1
    split at h1
    · cases h1; exact ⟨hl, vok_tl hs⟩
    · cases h1; exact ⟨hl, vok_tl hs⟩
    · cases h1
  case goto off =>
    obtain ⟨t, ht, rfl⟩ := Option.map_eq_some_iff.mp h1
    exact ⟨hl, hs⟩
  all_goals cases h1
theorem br1_vok {h : Hp} {pc : Nat} {i : Instr} {st : List AV} {q : Prop × Nat × List AV} (h1 : br1 i pc st = some q) (hs : ∀ v ∈ st, vok h v) : ∀ v ∈ q.2.2, vok h v := by
  cases i
  case ifCond k off =>
    dsimp only [br1] at h1
    split at h1
    · obtain ⟨t, ht, rfl⟩ := Option.map_eq_some_iff.mp h1; exact vok_tl hs
    · cases h1
  case if_icmp k off =>
    dsimp only [br1] at h1
    split at h1
    · obtain ⟨t, ht, rfl⟩ := Option.map_eq_some_iff.mp h1; exact vok_tl (vok_tl hs)
    · cases h1
  case if_acmp k off =>
    dsimp only [br1] at h1
    split at h1
    · split at h1
      · obtain ⟨t, ht, rfl⟩ := Option.map_eq_some_iff.mp h1; exact vok_tl (vok_tl hs)
      · cases h1
    · cases h1
  case ifnull off =>
    dsimp only [br1] at h1
    split at h1
    · obtain ⟨t, ht, rfl⟩ := Option.map_eq_some_iff.mp h1; exact vok_tl hs
    · cases h1
  case ifnonnull off =>
    dsimp only [br1] at h1
    split at h1
    · obtain ⟨t, ht, rfl⟩ := Option.map_eq_some_iff.mp h1; exact vok_tl hs
    · cases h1
  all_goals cases h1
theorem map_ext {h : Hp} {φ φ' : Nat → Nat → Nat} (he : ∀ t a, a < jN h t → φ' t a = φ t a) {st : List AV} (hs : ∀ v ∈ st, vok h v) : st.map (trv φ') = st.map (trv φ) := List.map_congr_left fun v hv => trv_ext he (hs v hv)
theorem prl_ext {h : Hp} {φ φ' : Nat → Nat → Nat} (he : ∀ t a, a < jN h t → φ' t a = φ t a) {ls : List AV} (hs : ∀ v ∈ ls, vok h v) (i : Nat) : prl φ' i ls = prl φ i ls := by
  induction ls generalizing i with
  | nil => rfl
  | cons a r ih =>
    unfold prl
    rw [ih (vok_tl hs), trv_ext he (hs a List.mem_cons_self)]
theorem nest_tab {w : Cond} (hw : w ∈ nestL) : w.onTables = true := by
  obtain ⟨j, hj⟩ := all_zip nest_ok (show nestL.length ≤ nestW.length by decide +kernel) w hw
  unfold nestOk at hj
  simp only [Bool.and_eq_true] at hj
  exact hj.2
/-- the constant things are the same in two states of one vm and heap -/
theorem Rom.blind {φ : Nat → Nat → Nat} {A : Nat → Prop} {s U : State} {H : Heap} (hv : U.vm = s.vm) (h : Rom φ A s H) : Rom φ A U H := by
  have ha : s.vm.Alike U.vm := by rw [hv]; exact Vm.Alike.refl _
  obtain ⟨h1, h2, h3, h4, h5, h6, h7, h8, h9, h10⟩ := h
  refine ⟨fun i hi => ?_, fun own idx id hl => (h2 own idx id hl).same hv, fun a z => (h3 a z).moved ha, h4.moved ha, h5.moved ha, h6.moved ha, h7.moved ha, h8.moved ha, fun w hw => va_Nw.same (nest_tab hw) hv.symm (h9 w hw), fun e he => (h10 e he).moved ha⟩
  obtain ⟨g1, g2, g3, g4⟩ := h1 i hi
  exact ⟨g1.moved ha, g2.moved ha, g3.moved ha, g4.moved ha⟩
section SND5
variable {p : Program} {l : Launch} {e : Env} {R : Room} {s : State} {m : MethodId} {args : Array Value} {below : List Frame} {meth : Method} {c : Code} {H : Heap} {locs : List Loc} {cells slots : Nat} {Qw : State → Prop}
variable {A : Nat → Prop} {L : Array Slot} {rest st0 : List Value} {pc mc ms : Nat} {free : Addr → Prop}
theorem s_call {Qa : State → Outcome → State → Prop} (hr : va_Run p l e R s m args below meth c H locs cells slots mc ms (F0 m pc L st0) rest Qa free) (hS : va_S A s.heap H locs) (hf : ∀ q, free q → A q) (hF : ∀ v st t, st.heap = H → Qa st (.returned v) t → va_F free st t)
    (kk : ∀ (v : Option Value) (st t : State) (H1 : Heap) (locs1 : List Loc), t.heap = H1 → s.vm.Alike t.vm → st.heap = H → Qa st (.returned v) t → va_S A s.heap H1 locs1 → W p l e R s m args below meth c H1 locs1 (cells + mc) (slots + ms) Qw (F0 m (pc + 3) L (v.toList ++ rest))) : W p l e R s m args below meth c H locs cells slots Qw (F0 m pc L st0) := by
  intro T hT X
  obtain ⟨v, st₀, t, T', K, h0, X', hL, e1, e2, hq, st⟩ := hr T hT X
  obtain ⟨hz, hk⟩ := hF v st₀ t h0 hq
  rw [h0] at hz hk
  obtain ⟨t2, a1, b1⟩ := kk v st₀ t T'.heap (locs ++ K) e1.symm (by rw [← e2]; exact X'.warmed.alike) h0 hq
    ⟨Nat.le_trans hS.1 (by rw [e1]; exact hz), fun q h1 h2 => by rw [e1, hk q (Nat.lt_of_lt_of_le h1 hS.1) (fun z => h2 (hf q z))]; exact hS.2.1 q h1 h2, fun q hq => by
      rcases List.mem_append.mp hq with h | h
      · exact hS.2.2 q h
      · exact hf _ (hL q h)⟩ T' rfl X'
  exact ⟨t2, st t2 a1, b1⟩
end SND5
