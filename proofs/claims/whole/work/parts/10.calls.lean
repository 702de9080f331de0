theorem FS_mono {C C' : CT} {y : Nat} {Q Q' : Option AV → Hp → Prop} {P P' : Nat → List AV → List AV → Hp → Prop} {pc : Nat} {ls st : List AV} {h : Hp} (hC : ∀ y as h R R', (∀ v h, R v h → R' v h) → C y as h R → C' y as h R') (hQ : ∀ v h, Q v h → Q' v h) (hP : ∀ pc ls st h, P pc ls st h → P' pc ls st h) (hh : FS C y Q P pc ls st h) : FS C' y Q' P' pc ls st h := by
  rcases FS_ex hh with ⟨a, b, c, d, l1, p, k⟩ | ⟨v, p, k⟩ | ⟨a, b, c, p, k⟩
  · exact k C' Q' P' (hP _ _ _ _ p)
  · exact k C' Q' P' (hQ _ _ p)
  · exact k C' Q' P' (hC _ _ _ _ _ (fun v h' q => hP _ _ _ _ q) p)
theorem Wp.mono {C C' : CT} {y : Nat} {Q Q' : Option AV → Hp → Prop} {pc : Nat} {ls st : List AV} {h : Hp} (hC : ∀ y as h R R', (∀ v h, R v h → R' v h) → C y as h R → C' y as h R') (hQ : ∀ v h, Q v h → Q' v h) (hh : Wp C y Q pc ls st h) : Wp C' y Q' pc ls st h :=
  fun P' hP' => hh P' (fun pc ls st h q => hP' pc ls st h (FS_mono hC hQ (fun _ _ _ _ z => z) q))
theorem Call_up : ∀ (d y : Nat) (as : List AV) (h : Hp) (R R' : Option AV → Hp → Prop), (∀ v h, R v h → R' v h) → Call d y as h R → Call (d + 1) y as h R'
  | 0, _, _, _, _, _, _, hh => hh.elim
  | d + 1, y, as, h, R, R', hR, hh => Wp.mono (C := Call d) (C' := Call (d + 1)) (fun y as h S S' hS q => Call_up d y as h S S' hS q) hR hh
theorem Call_mono {d : Nat} {y : Nat} {as : List AV} {h : Hp} {R R' : Option AV → Hp → Prop} (hR : ∀ v h, R v h → R' v h) (hh : Call d y as h R) : Call d y as h R' := by
  induction d generalizing y as h R R' with
  | zero => exact hh.elim
  | succ d ih => exact Wp.mono (C := Call d) (C' := Call d) (fun y as h S S' hS q => ih hS q) hR hh
theorem Call_le {d d' : Nat} {y : Nat} {as : List AV} {h : Hp} {R : Option AV → Hp → Prop} (hd : d ≤ d') (hh : Call d y as h R) : Call d' y as h R := by
  induction hd with
  | refl => exact hh
  | step _ ih => exact Call_up _ _ _ _ _ _ (fun _ _ q => q) ih
abbrev Cl (C : CT) (y : Nat) (Q : Option AV → Hp → Prop) (P : Nat → List AV → List AV → Hp → Prop) : Prop := ∀ pc ls st h, FS C y Q P pc ls st h → P pc ls st h
theorem Wp.step {d : Nat} {y : Nat} {Q : Option AV → Hp → Prop} {pc : Nat} {ls st : List AV} {h : Hp} (hh : FS (Call d) y Q (Wp (Call d) y Q) pc ls st h) : Wp (Call d) y Q pc ls st h :=
  fun P hP => hP _ _ _ _ (FS_mono (fun _ _ _ _ _ hS q => Call_mono hS q) (fun _ _ z => z) (fun _ _ _ _ w => w P hP) hh)
theorem Call_det : ∀ (d y : Nat) (as : List AV) (h : Hp) (Q : Option AV → Hp → Prop), Call d y as h Q → ∃ v h', hle h h' ∧ Q v h' ∧ Call d y as h (fun v0 h0 => v0 = v ∧ h0 = h')
  | 0, _, _, _, _, hh => hh.elim
  | d + 1, y, as, h, Q, hh => by
    refine hh (fun pc ls st h => ∃ v h', hle h h' ∧ Q v h' ∧ Wp (Call d) y (fun v0 h0 => v0 = v ∧ h0 = h') pc ls st h) ?_
    intro pc ls st h q
    rcases FS_ex q with ⟨a, b, c, e, l1, ⟨v, h', l2, p, w⟩, k⟩ | ⟨v, p, k⟩ | ⟨a, b, c, p, k⟩
    · exact ⟨v, h', l1.tr l2, p, Wp.step (k _ _ _ w)⟩
    · exact ⟨v, h, hle.rf h, p, Wp.step (k _ _ _ ⟨rfl, rfl⟩)⟩
    · obtain ⟨v1, h1, l1, ⟨v, h', l2, p2, w⟩, c1⟩ := Call_det d a b h _ p
      refine ⟨v, h', l1.tr l2, p2, Wp.step (k _ _ _ (Call_mono ?_ c1))⟩
      rintro v0 h0 ⟨rfl, rfl⟩
      exact w
/-- steps up to cut points -/
def FX (C : CT) (y : Nat) (Q : Option AV → Hp → Prop) (P : Nat → List AV → List AV → Hp → Prop) (cuts : List Nat) : Nat → Nat → List AV → List AV → Hp → Prop
  | 0, pc, ls, st, h => P pc ls st h
  | n + 1, pc, ls, st, h => match cuts.elem pc with
    | true => P pc ls st h
    | false => FS C y Q (FX C y Q P cuts n) pc ls st h
theorem FX_run {d y : Nat} {Q : Option AV → Hp → Prop} {P : Nat → List AV → List AV → Hp → Prop} {cuts : List Nat} (hP : Cl (Call d) y Q P) : ∀ (n pc : Nat) (ls st : List AV) (h : Hp), FX (Call d) y Q P cuts n pc ls st h → P pc ls st h
  | 0, _, _, _, _, hh => hh
  | n + 1, pc, ls, st, h, hh => by
    unfold FX at hh
    split at hh
    · exact hh
    · exact hP _ _ _ _ (FS_mono (fun _ _ _ _ _ hS q => Call_mono hS q) (fun _ _ z => z) (fun _ _ _ _ w => FX_run hP n _ _ _ _ w) hh)
theorem Cl.run {d y : Nat} {Q : Option AV → Hp → Prop} {P : Nat → List AV → List AV → Hp → Prop} (hP : Cl (Call d) y Q P) (cuts : List Nat) (n : Nat) {pc : Nat} {ls st : List AV} {h : Hp} (hh : FS (Call d) y Q (FX (Call d) y Q P cuts n) pc ls st h) : P pc ls st h :=
  hP _ _ _ _ (FS_mono (fun _ _ _ _ _ hS q => Call_mono hS q) (fun _ _ z => z) (fun _ _ _ _ w => FX_run hP n _ _ _ _ w) hh)
/-- a trial: isOffice -/
theorem try_94 {d : Nat} {Q : Option AV → Hp → Prop} {P : Nat → List AV → List AV → Hp → Prop} (hP : Cl (Call d) 94 Q P) (x : Int32) (h : Hp) (v : (x < 0 → Q (some (vI 0)) h) ∧ (¬ x < 0 → (4 ≤ x → Q (some (vI 0)) h) ∧ (¬ 4 ≤ x → Q (some (vI 1)) h))) : P 0 [vI x] [] h :=
  hP.run [] 20 ⟨fun c => ⟨rfl, v.1 c⟩, fun c => ⟨fun c2 => ⟨rfl, (v.2 c).1 c2⟩, fun c2 => ⟨rfl, (v.2 c).2 c2⟩⟩⟩
