/-! typed calls, and runs up to cut points over them -/
abbrev CI (d y : Nat) (as : List AV) (h : Hp) (K : Int32 → Hp → Prop) : Prop := Call d y as h (fun v h' => ∃ x, v = some (.inl x) ∧ K x h')
abbrev CJ (d y : Nat) (as : List AV) (h : Hp) (K : Int64 → Hp → Prop) : Prop := Call d y as h (fun v h' => ∃ x, v = some (.inr (.inl x)) ∧ K x h')
abbrev CV (d y : Nat) (as : List AV) (h : Hp) (K : Hp → Prop) : Prop := Call d y as h (fun v h' => v = none ∧ K h')
abbrev CR (d y t : Nat) (as : List AV) (h : Hp) (K : Option Nat → Hp → Prop) : Prop := Call d y as h (fun v h' => ∃ o, v = some (.inr (.inr (t, o))) ∧ K o h')
def tyK (rc : Nat) (K : Option AV → Hp → Prop) (v : Option AV) (h' : Hp) : Prop := match rc with
  | 0 => v = none ∧ K none h'
  | 1 => ∃ x, v = some (.inl x) ∧ K (some (.inl x)) h'
  | 2 => ∃ x, v = some (.inl x) ∧ K (some (.inl x)) h'
  | 3 => ∃ x, v = some (.inr (.inl x)) ∧ K (some (.inr (.inl x))) h'
  | 4 => False
  | n + 5 => ∃ o, v = some (.inr (.inr (n, o))) ∧ K (some (.inr (.inr (n, o)))) h'
theorem tyK_K {rc : Nat} {K : Option AV → Hp → Prop} {v : Option AV} {h' : Hp} (h : tyK rc K v h') : K v h' := by
  unfold tyK at h
  split at h
  · rw [h.1]; exact h.2
  · obtain ⟨x, e, k⟩ := h; rw [e]; exact k
  · obtain ⟨x, e, k⟩ := h; rw [e]; exact k
  · obtain ⟨x, e, k⟩ := h; rw [e]; exact k
  · exact h.elim
  · obtain ⟨x, e, k⟩ := h; rw [e]; exact k
def Ct (d : Nat) : CT := fun y as h K => Call d y as h (tyK (mRc y) K)
theorem tyK_mono {rc : Nat} {K K' : Option AV → Hp → Prop} {v : Option AV} {h' : Hp} (hk : ∀ v h, K v h → K' v h) (h : tyK rc K v h') : tyK rc K' v h' := by
  unfold tyK at h ⊢
  split at h
  · exact ⟨h.1, hk _ _ h.2⟩
  · obtain ⟨x, e, k⟩ := h; exact ⟨x, e, hk _ _ k⟩
  · obtain ⟨x, e, k⟩ := h; exact ⟨x, e, hk _ _ k⟩
  · obtain ⟨x, e, k⟩ := h; exact ⟨x, e, hk _ _ k⟩
  · exact h.elim
  · obtain ⟨x, e, k⟩ := h; exact ⟨x, e, hk _ _ k⟩
theorem FXt_run {d y : Nat} {Q : Option AV → Hp → Prop} {P : Nat → List AV → List AV → Hp → Prop} {cuts : List Nat} (hP : Cl (Call d) y Q P) : ∀ (n pc : Nat) (ls st : List AV) (h : Hp), FX (Ct d) y Q P cuts n pc ls st h → P pc ls st h
  | 0, _, _, _, _, hh => hh
  | n + 1, pc, ls, st, h, hh => by
    unfold FX at hh
    split at hh
    · exact hh
    · exact hP _ _ _ _ (FS_mono (C := Ct d) (fun _ _ _ _ _ hS q => Call_mono (fun v h z => hS v h (tyK_K z)) q) (fun _ _ z => z) (fun _ _ _ _ w => FXt_run hP n _ _ _ _ w) hh)
theorem Cl.runT {d y : Nat} {Q : Option AV → Hp → Prop} {P : Nat → List AV → List AV → Hp → Prop} (hP : Cl (Call d) y Q P) (cuts : List Nat) (n : Nat) {pc : Nat} {ls st : List AV} {h : Hp} (hh : FS (Ct d) y Q (FX (Ct d) y Q P cuts n) pc ls st h) : P pc ls st h :=
  hP _ _ _ _ (FS_mono (C := Ct d) (fun _ _ _ _ _ hS q => Call_mono (fun v h z => hS v h (tyK_K z)) q) (fun _ _ z => z) (fun _ _ _ _ w => FXt_run hP n _ _ _ _ w) hh)
/-- a method of no loop, at once -/
theorem Call.runT {d y : Nat} {as : List AV} {h : Hp} {Q : Option AV → Hp → Prop} (n : Nat) (hh : ∀ P, FS (Ct d) y Q (FX (Ct d) y Q P [] n) 0 (entLs as (mLo y)) [] h) : Call (d + 1) y as h Q :=
  fun P hP => Cl.runT hP [] n (hh P)
theorem CI.of {d y : Nat} {as : List AV} {h : Hp} {K K' : Int32 → Hp → Prop} (k : ∀ x h, K x h → K' x h) (c : CI d y as h K) : CI d y as h K' := Call_mono (fun _ _ z => by obtain ⟨x, e, w⟩ := z; exact ⟨x, e, k _ _ w⟩) c
theorem CJ.of {d y : Nat} {as : List AV} {h : Hp} {K K' : Int64 → Hp → Prop} (k : ∀ x h, K x h → K' x h) (c : CJ d y as h K) : CJ d y as h K' := Call_mono (fun _ _ z => by obtain ⟨x, e, w⟩ := z; exact ⟨x, e, k _ _ w⟩) c
theorem CV.of {d y : Nat} {as : List AV} {h : Hp} {K K' : Hp → Prop} (k : ∀ h, K h → K' h) (c : CV d y as h K) : CV d y as h K' := Call_mono (fun _ _ z => ⟨z.1, k _ z.2⟩) c
theorem CR.of {d y t : Nat} {as : List AV} {h : Hp} {K K' : Option Nat → Hp → Prop} (k : ∀ x h, K x h → K' x h) (c : CR d y t as h K) : CR d y t as h K' := Call_mono (fun _ _ z => by obtain ⟨x, e, w⟩ := z; exact ⟨x, e, k _ _ w⟩) c
