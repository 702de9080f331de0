/-! the step is monotone; calls answer one thing -/
theorem dr_mono {o : Option Nat} {K K' : Nat → Prop} (h : ∀ a, K a → K' a) (hh : dr o K) : dr o K' := by
  cases o with
  | none => exact hh
  | some a => exact h a hh
theorem rg_mono {t1 t2 : Nat} {A A' : Prop} (h : A → A') (hh : rg t1 t2 A) : rg t1 t2 A' := by
  unfold rg at hh ⊢
  cases hb : Nat.beq t1 t2 with
  | true => rw [hb] at hh; exact h hh
  | false => rw [hb] at hh; exact hh
theorem if_mono {b : Bool} {A A' : Prop} (h : A → A') (hh : if' b A) : if' b A' := by
  cases b with
  | true => exact h hh
  | false => exact hh
theorem if_ex {b : Bool} {A : Prop} (hh : if' b A) : b = true ∧ A := by
  cases b with
  | true => exact ⟨rfl, hh⟩
  | false => exact hh.elim
theorem lda_ex {h : Hp} {t a : Nat} {i : Int32} {K : AV → Prop} (hh : lda h t a i K) : ∃ v, K v ∧ ∀ K', K' v → lda h t a i K' := by
  unfold lda at hh
  split at hh
  · exact ⟨_, hh.2, fun K' k => ⟨hh.1, k⟩⟩
  · exact ⟨_, hh.2, fun K' k => ⟨hh.1, k⟩⟩
  · exact ⟨_, hh.2, fun K' k => ⟨hh.1, k⟩⟩
  · exact ⟨_, hh.2, fun K' k => ⟨hh.1, k⟩⟩
  · exact ⟨_, hh.2, fun K' k => ⟨hh.1, k⟩⟩
  · exact ⟨_, hh.2, fun K' k => ⟨hh.1, k⟩⟩
  · exact hh.elim
theorem sta_ex {h : Hp} {t a : Nat} {i x : Int32} {K : Hp → Prop} (hh : sta h t a i x K) : ∃ v, K (wI h t a (ix i) v) ∧ ∀ K' : Hp → Prop, K' (wI h t a (ix i) v) → sta h t a i x K' := by
  unfold sta at hh
  split at hh
  · exact ⟨_, hh.2, fun K' k => ⟨hh.1, k⟩⟩
  · exact ⟨_, hh.2, fun K' k => ⟨hh.1, k⟩⟩
  · exact ⟨_, hh.2, fun K' k => ⟨hh.1, k⟩⟩
  · exact ⟨_, hh.2, fun K' k => ⟨hh.1, k⟩⟩
  · exact hh.elim
theorem ald_ex {i : Instr} {h : Hp} {st : List AV} {K : List AV → Prop} (hh : ald i h st K) : ∃ s', K s' ∧ ∀ K' : List AV → Prop, K' s' → ald i h st K' := by
  unfold ald at hh
  split at hh
  · rename_i j t o r
    obtain ⟨hb, hd⟩ := if_ex hh
    obtain ⟨a, rfl, hl⟩ := dr_ex hd
    obtain ⟨v, hv, hk⟩ := lda_ex hl
    refine ⟨v :: r, hv, fun K' k => ?_⟩
    show if' (okA i t) (lda h t a j fun v => K' (v :: r))
    rw [hb]
    exact hk (fun v => K' (v :: r)) k
  · exact hh.elim
theorem ast_ex {i : Instr} {h : Hp} {st : List AV} {K : List AV → Hp → Prop} (hh : ast i h st K) : ∃ s' t a k v, K s' (wI h t a k v) ∧ ∀ K' : List AV → Hp → Prop, K' s' (wI h t a k v) → ast i h st K' := by
  unfold ast at hh
  split at hh
  · rename_i x j t o r
    obtain ⟨hb, hd⟩ := if_ex hh
    obtain ⟨a, rfl, hl⟩ := dr_ex hd
    obtain ⟨v, hv, hk⟩ := sta_ex hl
    refine ⟨r, t, a, ix j, v, hv, fun K' k => ?_⟩
    show if' (okA i t) (sta h t a j x fun h' => K' r h')
    rw [hb]
    exact hk (fun h' => K' r h') k
  · exact hh.elim
/-- the heap h' is h with more in it -/
def hle (h h' : Hp) : Prop := (∀ t, jN h t ≤ jN h' t) ∧ jC h ≤ jC h' ∧ jZ h ≤ jZ h'
theorem hle.rf (h : Hp) : hle h h := ⟨fun _ => Nat.le_refl _, Nat.le_refl _, Nat.le_refl _⟩
theorem hle.tr {a b c : Hp} (h : hle a b) (k : hle b c) : hle a c := ⟨fun t => Nat.le_trans (h.1 t) (k.1 t), Nat.le_trans h.2.1 k.2.1, Nat.le_trans h.2.2 k.2.2⟩
theorem hle.wI (h : Hp) (t a k : Nat) (v : Int32) : hle h (wI h t a k v) := ⟨fun _ => Nat.le_refl _, Nat.le_refl _, Nat.le_refl _⟩
theorem hle.wL (h : Hp) (t a k : Nat) (v : Int64) : hle h (wL h t a k v) := ⟨fun _ => Nat.le_refl _, Nat.le_refl _, Nat.le_refl _⟩
theorem hle.wR (h : Hp) (t a k : Nat) (v : Option Nat) : hle h (wR h t a k v) := ⟨fun _ => Nat.le_refl _, Nat.le_refl _, Nat.le_refl _⟩
theorem hle.mk (h : Hp) (t n sl : Nat) : hle h (mk h t n sl) := by
  refine ⟨fun t' => ?_, Nat.le_succ _, Nat.le_add_right _ _⟩
  show jN h t' ≤ if t' = t then jN h t + 1 else jN h t'
  by_cases e : t' = t
  · rw [if_pos e, e]; exact Nat.le_succ _
  · rw [if_neg e]; exact Nat.le_refl _
theorem pf_ex {h : Hp} {t a k : Nat} {v : AV} {K : Hp → Prop} (hh : pf h t a k v K) : ∃ h', hle h h' ∧ K h' ∧ ∀ K' : Hp → Prop, K' h' → pf h t a k v K' := by
  unfold pf at hh ⊢
  split at hh
  · exact ⟨_, hle.wI h t a k _, hh, fun K' k => k⟩
  · exact ⟨_, hle.wL h t a k _, hh, fun K' k => k⟩
  · exact ⟨_, hle.wI h t a k _, hh.2, fun K' k => ⟨hh.1, k⟩⟩
  · split at hh
    · exact ⟨_, hle.wR h t a k _, hh, fun K' k => k⟩
    · exact ⟨_, hle.wR h t a k _, hh, fun K' k => k⟩
    · exact hh.elim
  · exact hh.elim
theorem swl_ex {x : Int32} {pc : Nat} {d : Int} {P : Nat → Prop} : ∀ (os : List (Int × Int)), swl x pc P d os → ∃ t, P t ∧ ∀ P' : Nat → Prop, P' t → swl x pc P' d os
  | [], hh => by
    unfold swl at hh ⊢
    cases hj : jto pc d with
    | none => rw [hj] at hh; exact hh.elim
    | some t => rw [hj] at hh; exact ⟨t, hh, fun P' p => p⟩
  | (k, o) :: os, hh => by
    by_cases e : x = Int32.ofInt k
    · have h1 := hh.1 e
      cases hj : jto pc o with
      | none => rw [hj] at h1; exact h1.elim
      | some t =>
        rw [hj] at h1
        refine ⟨t, h1, fun P' p => ⟨fun _ => ?_, fun n => absurd e n⟩⟩
        rw [hj]
        exact p
    · obtain ⟨t, h1, h2⟩ := swl_ex os (hh.2 e)
      exact ⟨t, h1, fun P' p => ⟨fun n => absurd n e, fun _ => h2 P' p⟩⟩
/-- what a step is: it goes on, it answers, it calls -/
def Nx (C : CT) (y : Nat) (Q : Option AV → Hp → Prop) (P : Nat → List AV → List AV → Hp → Prop) (ls : List AV) (pc : Nat) (h : Hp) (G : CT → (Option AV → Hp → Prop) → (Nat → List AV → List AV → Hp → Prop) → Prop) : Prop :=
  (∃ pc' ls' st' h', hle h h' ∧ P pc' ls' st' h' ∧ ∀ C' Q' P', P' pc' ls' st' h' → G C' Q' P') ∨ (∃ v, Q v h ∧ ∀ C' Q' P', Q' v h → G C' Q' P') ∨
  (∃ y' as r, C y' as h (fun v h' => P (pc + 3) ls (cons? v r) h') ∧ ∀ (C' : CT) Q' P', C' y' as h (fun v h' => P' (pc + 3) ls (cons? v r) h') → G C' Q' P')
theorem Nx.go {C : CT} {y : Nat} {Q : Option AV → Hp → Prop} {P : Nat → List AV → List AV → Hp → Prop} {ls : List AV} {pc : Nat} {h : Hp} {G : CT → (Option AV → Hp → Prop) → (Nat → List AV → List AV → Hp → Prop) → Prop} (pc' : Nat) (ls' st' : List AV) (h' : Hp) (a : hle h h') (b : P pc' ls' st' h') (c : ∀ C' Q' P', P' pc' ls' st' h' → G C' Q' P') : Nx C y Q P ls pc h G := Or.inl ⟨pc', ls', st', h', a, b, c⟩
theorem Nx.re {C : CT} {y : Nat} {Q : Option AV → Hp → Prop} {P : Nat → List AV → List AV → Hp → Prop} {ls : List AV} {pc : Nat} {h : Hp} {G : CT → (Option AV → Hp → Prop) → (Nat → List AV → List AV → Hp → Prop) → Prop} (v : Option AV) (b : Q v h) (c : ∀ C' Q' P', Q' v h → G C' Q' P') : Nx C y Q P ls pc h G := Or.inr (Or.inl ⟨v, b, c⟩)
theorem Nx.ca {C : CT} {y : Nat} {Q : Option AV → Hp → Prop} {P : Nat → List AV → List AV → Hp → Prop} {ls : List AV} {pc : Nat} {h : Hp} {G : CT → (Option AV → Hp → Prop) → (Nat → List AV → List AV → Hp → Prop) → Prop} (y' : Nat) (as r : List AV) (b : C y' as h (fun v h' => P (pc + 3) ls (cons? v r) h')) (c : ∀ (C' : CT) Q' P', C' y' as h (fun v h' => P' (pc + 3) ls (cons? v r) h') → G C' Q' P') : Nx C y Q P ls pc h G := Or.inr (Or.inr ⟨y', as, r, b, c⟩)
set_option maxHeartbeats 4000000 in
theorem FH_ex {C : CT} {y : Nat} {Q : Option AV → Hp → Prop} {P : Nat → List AV → List AV → Hp → Prop} {pc : Nat} {ls st : List AV} {h : Hp} (i : Instr) (hh : FH C y Q P pc ls st h i) : Nx C y Q P ls pc h (fun C' Q' P' => FH C' y Q' P' pc ls st h i) := by
  cases i
  case idiv =>
    dsimp only [FH] at hh ⊢
    split at hh
    · exact Nx.go _ _ _ _ (hle.rf h) hh.2 (fun C' Q' P' p => ⟨hh.1, p⟩)
    · exact hh.elim
  case irem =>
    dsimp only [FH] at hh ⊢
    split at hh
    · exact Nx.go _ _ _ _ (hle.rf h) hh.2 (fun C' Q' P' p => ⟨hh.1, p⟩)
    · exact hh.elim
  case tableswitch d lo hi os =>
    dsimp only [FH] at hh ⊢
    split at hh
    · obtain ⟨t, h1, h2⟩ := swl_ex _ hh
      exact Nx.go t _ _ _ (hle.rf h) h1 (fun C' Q' P' p => h2 (fun t => P' t ls _ h) p)
    · exact hh.elim
  case lookupswitch d os =>
    dsimp only [FH] at hh ⊢
    split at hh
    · obtain ⟨t, h1, h2⟩ := swl_ex _ hh
      exact Nx.go t _ _ _ (hle.rf h) h1 (fun C' Q' P' p => h2 (fun t => P' t ls _ h) p)
    · exact hh.elim
  case getfield idx =>
    dsimp only [FH] at hh ⊢
    split at hh
    · obtain ⟨rfl, h1⟩ := rg_ex hh
      obtain ⟨a, rfl, h2⟩ := dr_ex h1
      refine Nx.go _ _ _ _ (hle.rf h) h2 (fun C' Q' P' p => ?_)
      simp only [rg, Nat.beq_refl, dr]
      exact p
    · exact hh.elim
  case putfield idx =>
    dsimp only [FH] at hh ⊢
    split at hh
    · obtain ⟨rfl, h1⟩ := rg_ex hh
      obtain ⟨a, rfl, h2⟩ := dr_ex h1
      obtain ⟨h', l1, h3, h4⟩ := pf_ex h2
      refine Nx.go _ _ _ _ l1 h3 (fun C' Q' P' p => ?_)
      simp only [rg, Nat.beq_refl, dr]
      exact h4 (fun h' => P' (pc + 3) ls _ h') p
    · exact hh.elim
  case iaload =>
    dsimp only [FH] at hh ⊢
    obtain ⟨s', h1, h2⟩ := ald_ex hh
    exact Nx.go _ _ _ _ (hle.rf h) h1 (fun C' Q' P' p => h2 (fun st' => P' (pc + 1) ls st' h) p)
  case baload =>
    dsimp only [FH] at hh ⊢
    obtain ⟨s', h1, h2⟩ := ald_ex hh
    exact Nx.go _ _ _ _ (hle.rf h) h1 (fun C' Q' P' p => h2 (fun st' => P' (pc + 1) ls st' h) p)
  case caload =>
    dsimp only [FH] at hh ⊢
    obtain ⟨s', h1, h2⟩ := ald_ex hh
    exact Nx.go _ _ _ _ (hle.rf h) h1 (fun C' Q' P' p => h2 (fun st' => P' (pc + 1) ls st' h) p)
  case iastore =>
    dsimp only [FH] at hh ⊢
    obtain ⟨s', t, a, k, v, h1, h2⟩ := ast_ex hh
    exact Nx.go _ _ _ _ (hle.wI h t a k v) h1 (fun C' Q' P' p => h2 (fun st' h' => P' (pc + 1) ls st' h') p)
  case bastore =>
    dsimp only [FH] at hh ⊢
    obtain ⟨s', t, a, k, v, h1, h2⟩ := ast_ex hh
    exact Nx.go _ _ _ _ (hle.wI h t a k v) h1 (fun C' Q' P' p => h2 (fun st' h' => P' (pc + 1) ls st' h') p)
  case castore =>
    dsimp only [FH] at hh ⊢
    obtain ⟨s', t, a, k, v, h1, h2⟩ := ast_ex hh
    exact Nx.go _ _ _ _ (hle.wI h t a k v) h1 (fun C' Q' P' p => h2 (fun st' h' => P' (pc + 1) ls st' h') p)
  case aaload =>
    dsimp only [FH] at hh ⊢
    split at hh
    · obtain ⟨hb, h1⟩ := if_ex hh
      obtain ⟨a, rfl, h2, h3⟩ := dr_ex h1
      refine Nx.go _ _ _ _ (hle.rf h) h3 (fun C' Q' P' p => ?_)
      try simp only [hb, if', dr]
      exact ⟨h2, p⟩
    · exact hh.elim
  case aastore =>
    dsimp only [FH] at hh ⊢
    split at hh
    · obtain ⟨hb, h1⟩ := if_ex hh
      obtain ⟨a, rfl, h2, h3⟩ := dr_ex h1
      refine Nx.go _ _ _ _ (hle.wR h _ _ _ _) h3 (fun C' Q' P' p => ?_)
      try simp only [hb, if', dr]
      exact ⟨h2, p⟩
    · exact hh.elim
  case arraylength =>
    dsimp only [FH] at hh ⊢
    split at hh
    · obtain ⟨a, rfl, h2⟩ := dr_ex hh
      split at h2
      · rename_i n hn
        refine Nx.go _ _ _ _ (hle.rf h) h2 (fun C' Q' P' p => ?_)
        simp only [dr, hn]
        exact p
      · exact h2.elim
    · exact hh.elim
  case newarray at' =>
    dsimp only [FH] at hh ⊢
    split at hh
    · obtain ⟨hb, h1, h2, h3⟩ := if_ex hh
      refine Nx.go _ _ _ _ (hle.mk h _ _ _) h3 (fun C' Q' P' p => ?_)
      try simp only [hb, if']
      exact ⟨h1, h2, p⟩
    · exact hh.elim
  case anewarray idx =>
    dsimp only [FH] at hh ⊢
    split at hh
    · obtain ⟨hb, h1, h2, h3⟩ := if_ex hh
      refine Nx.go _ _ _ _ (hle.mk h _ _ _) h3 (fun C' Q' P' p => ?_)
      try simp only [hb, if']
      exact ⟨h1, h2, p⟩
    · exact hh.elim
  case new idx =>
    dsimp only [FH] at hh ⊢
    split at hh
    · obtain ⟨hb, h1⟩ := if_ex hh
      refine Nx.go _ _ _ _ (hle.mk h _ _ _) h1 (fun C' Q' P' p => ?_)
      try simp only [hb, if']
      exact p
    · exact hh.elim
  case invokestatic idx =>
    dsimp only [FH] at hh ⊢
    split at hh
    · split at hh
      · obtain ⟨hb, h1, h2⟩ := if_ex hh
        refine Nx.go _ _ _ _ (hle.rf h) h2 (fun C' Q' P' p => ?_)
        try simp only [hb, if']
        exact ⟨h1, p⟩
      · exact hh.elim
    · split at hh
      · obtain ⟨hb, h1⟩ := if_ex hh
        refine Nx.go _ _ _ _ (hle.rf h) h1 (fun C' Q' P' p => ?_)
        try simp only [hb, if']
        exact p
      · exact hh.elim
    · split at hh
      · obtain ⟨hb, h1⟩ := if_ex hh
        refine Nx.go _ _ _ _ (hle.rf h) h1 (fun C' Q' P' p => ?_)
        try simp only [hb, if']
        exact p
      · exact hh.elim
    · split at hh
      · obtain ⟨hb, h1⟩ := if_ex hh
        refine Nx.go _ _ _ _ (hle.rf h) h1 (fun C' Q' P' p => ?_)
        try simp only [hb, if']
        exact p
      · exact hh.elim
    · obtain ⟨hb, h1⟩ := if_ex hh
      refine Nx.ca _ _ _ h1 (fun C' Q' P' p => ?_)
      try simp only [hb, if']
      exact p
    · exact hh.elim
  case invokevirtual idx =>
    dsimp only [FH] at hh ⊢
    split at hh
    · split at hh
      · obtain ⟨hb, h1⟩ := if_ex hh
        obtain ⟨rfl, h2⟩ := rg_ex h1
        obtain ⟨a, rfl, h3⟩ := dr_ex h2
        refine Nx.ca _ _ _ h3 (fun C' Q' P' p => ?_)
        try simp only [hb, if', rg, Nat.beq_refl, dr]
        exact p
      · exact hh.elim
    · exact hh.elim
  case invokespecial idx =>
    dsimp only [FH] at hh ⊢
    split at hh
    · split at hh
      · obtain ⟨hb, h1⟩ := if_ex hh
        obtain ⟨a, rfl, h3⟩ := dr_ex h1
        refine Nx.go _ _ _ _ (hle.rf h) h3 (fun C' Q' P' p => ?_)
        try simp only [hb, if', dr]
        exact p
      · exact hh.elim
    · split at hh
      · obtain ⟨hb, h1⟩ := if_ex hh
        obtain ⟨rfl, h2⟩ := rg_ex h1
        obtain ⟨a, rfl, h3⟩ := dr_ex h2
        refine Nx.ca _ _ _ h3 (fun C' Q' P' p => ?_)
        try simp only [hb, if', rg, Nat.beq_refl, dr]
        exact p
      · exact hh.elim
    · exact hh.elim
  case ireturn =>
    dsimp only [FH] at hh ⊢
    split at hh
    · split at hh
      · rename_i hc
        refine Nx.re _ hh (fun C' Q' P' p => ?_)
        exact p
      · rename_i hc
        refine Nx.re _ hh.2 (fun C' Q' P' p => ?_)
        try simp only [hc]
        exact ⟨hh.1, p⟩
      · exact hh.elim
    · exact hh.elim
  case lreturn =>
    dsimp only [FH] at hh ⊢
    split at hh
    · split at hh
      · rename_i hc
        refine Nx.re _ hh (fun C' Q' P' p => ?_)
        try simp only [hc]
        exact p
      · exact hh.elim
    · exact hh.elim
  case areturn =>
    dsimp only [FH] at hh ⊢
    split at hh
    · split at hh
      · rename_i hc
        split at hh
        · rename_i hd
          refine Nx.re _ hh (fun C' Q' P' p => ?_)
          try simp only [hc, hd]
          exact p
        · rename_i hd
          refine Nx.re _ hh (fun C' Q' P' p => ?_)
          try simp only [hc, hd]
          exact p
        · exact hh.elim
      · exact hh.elim
    · exact hh.elim
  case return_ =>
    dsimp only [FH] at hh ⊢
    split at hh
    · split at hh
      · rename_i hc
        refine Nx.re _ hh (fun C' Q' P' p => ?_)
        try simp only [hc]
        exact p
      · exact hh.elim
    · exact hh.elim
  all_goals exact (show False from hh).elim
theorem FS_ex {C : CT} {y : Nat} {Q : Option AV → Hp → Prop} {P : Nat → List AV → List AV → Hp → Prop} {pc : Nat} {ls st : List AV} {h : Hp} (hh : FS C y Q P pc ls st h) : Nx C y Q P ls pc h (fun C' Q' P' => FS C' y Q' P' pc ls st h) := by
  unfold FS at hh ⊢
  split at hh
  · rename_i i hi
    unfold FI at hh ⊢
    split at hh
    · rename_i q hq
      refine Nx.go _ _ _ _ (hle.rf h) hh (fun C' Q' P' p => ?_)
      try simp only [hq]
      exact p
    · rename_i hq
      split at hh
      · rename_i q hb
        by_cases e : q.1
        · refine Nx.go _ _ _ _ (hle.rf h) (hh.1 e) (fun C' Q' P' p => ?_)
          try simp only [hq, hb]
          exact ⟨fun _ => p, fun n => absurd e n⟩
        · refine Nx.go _ _ _ _ (hle.rf h) (hh.2 e) (fun C' Q' P' p => ?_)
          try simp only [hq, hb]
          exact ⟨fun n => absurd n e, fun _ => p⟩
      · rename_i hb
        rcases FH_ex i hh with ⟨a, b, c, d, l1, p, k⟩ | ⟨v, p, k⟩ | ⟨a, b, c, p, k⟩
        · refine Nx.go a b c d l1 p (fun C' Q' P' p => ?_)
          try simp only [hq, hb]
          exact k C' Q' P' p
        · refine Nx.re v p (fun C' Q' P' p => ?_)
          try simp only [hq, hb]
          exact k C' Q' P' p
        · refine Nx.ca a b c p (fun C' Q' P' p => ?_)
          try simp only [hq, hb]
          exact k C' Q' P' p
  · exact hh.elim
