/-! calls that make no person: which regions grow -/
def okY (y : Nat) : Bool := !(Nat.ble 45 y && Nat.ble y 51) && !(Nat.beq y 85) && !(Nat.beq y 109) && !(Nat.beq y 110) && !(Nat.beq y 111)
def okI (y : Nat) (i : Instr) : Bool := match i with
  | .new idx => match clk (mOw y) idx with
    | some t => !(Nat.beq t 5)
    | none => true
  | .invokestatic idx => match mth (mOw y) idx with
    | some q => okY q.1
    | none => true
  | .invokevirtual idx => match mth (mOw y) idx with
    | some q => okY q.1
    | none => true
  | .invokespecial idx => match mth (mOw y) idx with
    | some q => okY q.1
    | none => true
  | _ => true
def Ny (C : CT) (y : Nat) (Q : Option AV → Hp → Prop) (P : Nat → List AV → List AV → Hp → Prop) (ls : List AV) (pc : Nat) (h : Hp) (G : CT → (Option AV → Hp → Prop) → (Nat → List AV → List AV → Hp → Prop) → Prop) : Prop :=
  (∃ pc' ls' st' h', jN h' 5 = jN h 5 ∧ P pc' ls' st' h' ∧ ∀ C' Q' P', P' pc' ls' st' h' → G C' Q' P') ∨ (∃ v, Q v h ∧ ∀ C' Q' P', Q' v h → G C' Q' P') ∨
  (∃ y' as r, okY y' = true ∧ C y' as h (fun v h' => P (pc + 3) ls (cons? v r) h') ∧ ∀ (C' : CT) Q' P', C' y' as h (fun v h' => P' (pc + 3) ls (cons? v r) h') → G C' Q' P')
theorem Ny.go {C : CT} {y : Nat} {Q : Option AV → Hp → Prop} {P : Nat → List AV → List AV → Hp → Prop} {ls : List AV} {pc : Nat} {h : Hp} {G : CT → (Option AV → Hp → Prop) → (Nat → List AV → List AV → Hp → Prop) → Prop} (pc' : Nat) (ls' st' : List AV) (h' : Hp) (a : jN h' 5 = jN h 5) (b : P pc' ls' st' h') (c : ∀ C' Q' P', P' pc' ls' st' h' → G C' Q' P') : Ny C y Q P ls pc h G := Or.inl ⟨pc', ls', st', h', a, b, c⟩
theorem Ny.re {C : CT} {y : Nat} {Q : Option AV → Hp → Prop} {P : Nat → List AV → List AV → Hp → Prop} {ls : List AV} {pc : Nat} {h : Hp} {G : CT → (Option AV → Hp → Prop) → (Nat → List AV → List AV → Hp → Prop) → Prop} (v : Option AV) (b : Q v h) (c : ∀ C' Q' P', Q' v h → G C' Q' P') : Ny C y Q P ls pc h G := Or.inr (Or.inl ⟨v, b, c⟩)
theorem Ny.ca {C : CT} {y : Nat} {Q : Option AV → Hp → Prop} {P : Nat → List AV → List AV → Hp → Prop} {ls : List AV} {pc : Nat} {h : Hp} {G : CT → (Option AV → Hp → Prop) → (Nat → List AV → List AV → Hp → Prop) → Prop} (y' : Nat) (as r : List AV) (a : okY y' = true) (b : C y' as h (fun v h' => P (pc + 3) ls (cons? v r) h')) (c : ∀ (C' : CT) Q' P', C' y' as h (fun v h' => P' (pc + 3) ls (cons? v r) h') → G C' Q' P') : Ny C y Q P ls pc h G := Or.inr (Or.inr ⟨y', as, r, a, b, c⟩)
theorem mk5 {h : Hp} {t n sl : Nat} (ht : t ≠ 5) : jN (mk h t n sl) 5 = jN h 5 := if_neg (fun z => ht z.symm)
theorem w5I (h : Hp) (t a k : Nat) (v : Int32) : jN (wI h t a k v) 5 = jN h 5 := rfl
theorem w5L (h : Hp) (t a k : Nat) (v : Int64) : jN (wL h t a k v) 5 = jN h 5 := rfl
theorem w5R (h : Hp) (t a k : Nat) (v : Option Nat) : jN (wR h t a k v) 5 = jN h 5 := rfl
theorem pf_ex5 {h : Hp} {t a k : Nat} {v : AV} {K : Hp → Prop} (hh : pf h t a k v K) : ∃ h', jN h' 5 = jN h 5 ∧ K h' ∧ ∀ K' : Hp → Prop, K' h' → pf h t a k v K' := by
  unfold pf at hh ⊢
  split at hh
  · exact ⟨_, w5I h t a k _, hh, fun K' k => k⟩
  · exact ⟨_, w5L h t a k _, hh, fun K' k => k⟩
  · exact ⟨_, w5I h t a k _, hh.2, fun K' k => ⟨hh.1, k⟩⟩
  · split at hh
    · exact ⟨_, w5R h t a k _, hh, fun K' k => k⟩
    · exact ⟨_, w5R h t a k _, hh, fun K' k => k⟩
    · exact hh.elim
  · exact hh.elim
set_option maxHeartbeats 4000000 in
theorem FH_ex5 {C : CT} {y : Nat} {Q : Option AV → Hp → Prop} {P : Nat → List AV → List AV → Hp → Prop} {pc : Nat} {ls st : List AV} {h : Hp} (i : Instr) (hi : okI y i = true) (hh : FH C y Q P pc ls st h i) : Ny C y Q P ls pc h (fun C' Q' P' => FH C' y Q' P' pc ls st h i) := by
  cases i
  case idiv =>
    dsimp only [FH] at hh ⊢
    split at hh
    · exact Ny.go _ _ _ _ rfl hh.2 (fun C' Q' P' p => ⟨hh.1, p⟩)
    · exact hh.elim
  case irem =>
    dsimp only [FH] at hh ⊢
    split at hh
    · exact Ny.go _ _ _ _ rfl hh.2 (fun C' Q' P' p => ⟨hh.1, p⟩)
    · exact hh.elim
  case tableswitch d lo hi os =>
    dsimp only [FH] at hh ⊢
    split at hh
    · obtain ⟨t, h1, h2⟩ := swl_ex _ hh
      exact Ny.go t _ _ _ rfl h1 (fun C' Q' P' p => h2 (fun t => P' t ls _ h) p)
    · exact hh.elim
  case lookupswitch d os =>
    dsimp only [FH] at hh ⊢
    split at hh
    · obtain ⟨t, h1, h2⟩ := swl_ex _ hh
      exact Ny.go t _ _ _ rfl h1 (fun C' Q' P' p => h2 (fun t => P' t ls _ h) p)
    · exact hh.elim
  case getfield idx =>
    dsimp only [FH] at hh ⊢
    split at hh
    · obtain ⟨rfl, h1⟩ := rg_ex hh
      obtain ⟨a, rfl, h2⟩ := dr_ex h1
      refine Ny.go _ _ _ _ rfl h2 (fun C' Q' P' p => ?_)
      simp only [rg, Nat.beq_refl, dr]
      exact p
    · exact hh.elim
  case putfield idx =>
    dsimp only [FH] at hh ⊢
    split at hh
    · obtain ⟨rfl, h1⟩ := rg_ex hh
      obtain ⟨a, rfl, h2⟩ := dr_ex h1
      obtain ⟨h', l1, h3, h4⟩ := pf_ex5 h2
      refine Ny.go _ _ _ _ l1 h3 (fun C' Q' P' p => ?_)
      simp only [rg, Nat.beq_refl, dr]
      exact h4 (fun h' => P' (pc + 3) ls _ h') p
    · exact hh.elim
  case iaload =>
    dsimp only [FH] at hh ⊢
    obtain ⟨s', h1, h2⟩ := ald_ex hh
    exact Ny.go _ _ _ _ rfl h1 (fun C' Q' P' p => h2 (fun st' => P' (pc + 1) ls st' h) p)
  case baload =>
    dsimp only [FH] at hh ⊢
    obtain ⟨s', h1, h2⟩ := ald_ex hh
    exact Ny.go _ _ _ _ rfl h1 (fun C' Q' P' p => h2 (fun st' => P' (pc + 1) ls st' h) p)
  case caload =>
    dsimp only [FH] at hh ⊢
    obtain ⟨s', h1, h2⟩ := ald_ex hh
    exact Ny.go _ _ _ _ rfl h1 (fun C' Q' P' p => h2 (fun st' => P' (pc + 1) ls st' h) p)
  case iastore =>
    dsimp only [FH] at hh ⊢
    obtain ⟨s', t, a, k, v, h1, h2⟩ := ast_ex hh
    exact Ny.go _ _ _ _ (w5I h t a k v) h1 (fun C' Q' P' p => h2 (fun st' h' => P' (pc + 1) ls st' h') p)
  case bastore =>
    dsimp only [FH] at hh ⊢
    obtain ⟨s', t, a, k, v, h1, h2⟩ := ast_ex hh
    exact Ny.go _ _ _ _ (w5I h t a k v) h1 (fun C' Q' P' p => h2 (fun st' h' => P' (pc + 1) ls st' h') p)
  case castore =>
    dsimp only [FH] at hh ⊢
    obtain ⟨s', t, a, k, v, h1, h2⟩ := ast_ex hh
    exact Ny.go _ _ _ _ (w5I h t a k v) h1 (fun C' Q' P' p => h2 (fun st' h' => P' (pc + 1) ls st' h') p)
  case aaload =>
    dsimp only [FH] at hh ⊢
    split at hh
    · obtain ⟨hb, h1⟩ := if_ex hh
      obtain ⟨a, rfl, h2, h3⟩ := dr_ex h1
      refine Ny.go _ _ _ _ rfl h3 (fun C' Q' P' p => ?_)
      try simp only [hb, if', dr]
      exact ⟨h2, p⟩
    · exact hh.elim
  case aastore =>
    dsimp only [FH] at hh ⊢
    split at hh
    · obtain ⟨hb, h1⟩ := if_ex hh
      obtain ⟨a, rfl, h2, h3⟩ := dr_ex h1
      refine Ny.go _ _ _ _ (w5R h _ _ _ _) h3 (fun C' Q' P' p => ?_)
      try simp only [hb, if', dr]
      exact ⟨h2, p⟩
    · exact hh.elim
  case arraylength =>
    dsimp only [FH] at hh ⊢
    split at hh
    · obtain ⟨a, rfl, h2⟩ := dr_ex hh
      split at h2
      · rename_i n hn
        refine Ny.go _ _ _ _ rfl h2 (fun C' Q' P' p => ?_)
        simp only [dr, hn]
        exact p
      · exact h2.elim
    · exact hh.elim
  case newarray at' =>
    dsimp only [FH] at hh ⊢
    split at hh
    · obtain ⟨hb, h1, h2, h3⟩ := if_ex hh
      refine Ny.go _ _ _ _ (mk5 (by cases at' <;> decide)) h3 (fun C' Q' P' p => ?_)
      try simp only [hb, if']
      exact ⟨h1, h2, p⟩
    · exact hh.elim
  case anewarray idx =>
    dsimp only [FH] at hh ⊢
    split at hh
    · obtain ⟨hb, h1, h2, h3⟩ := if_ex hh
      refine Ny.go _ _ _ _ (mk5 (by omega)) h3 (fun C' Q' P' p => ?_)
      try simp only [hb, if']
      exact ⟨h1, h2, p⟩
    · exact hh.elim
  case new idx =>
    have h5 : ∀ t, clk (mOw y) idx = some t → t ≠ 5 := fun t e z => by
      have hi2 : (match clk (mOw y) idx with | some t => !(Nat.beq t 5) | none => true) = true := hi
      rw [e, z] at hi2
      exact absurd hi2 (by decide)
    dsimp only [FH] at hh ⊢
    split at hh
    · obtain ⟨hb, h1⟩ := if_ex hh
      refine Ny.go _ _ _ _ (mk5 (h5 _ (by assumption))) h1 (fun C' Q' P' p => ?_)
      try simp only [hb, if']
      exact p
    · exact hh.elim
  case invokestatic idx =>
    have hy : ∀ q, mth (mOw y) idx = some q → okY q.1 = true := fun q e => by
      have hi2 : (match mth (mOw y) idx with | some q => okY q.1 | none => true) = true := hi
      rw [e] at hi2
      exact hi2
    dsimp only [FH] at hh ⊢
    split at hh
    · split at hh
      · obtain ⟨hb, h1, h2⟩ := if_ex hh
        refine Ny.go _ _ _ _ rfl h2 (fun C' Q' P' p => ?_)
        try simp only [hb, if']
        exact ⟨h1, p⟩
      · exact hh.elim
    · split at hh
      · obtain ⟨hb, h1⟩ := if_ex hh
        refine Ny.go _ _ _ _ rfl h1 (fun C' Q' P' p => ?_)
        try simp only [hb, if']
        exact p
      · exact hh.elim
    · split at hh
      · obtain ⟨hb, h1⟩ := if_ex hh
        refine Ny.go _ _ _ _ rfl h1 (fun C' Q' P' p => ?_)
        try simp only [hb, if']
        exact p
      · exact hh.elim
    · split at hh
      · obtain ⟨hb, h1⟩ := if_ex hh
        refine Ny.go _ _ _ _ rfl h1 (fun C' Q' P' p => ?_)
        try simp only [hb, if']
        exact p
      · exact hh.elim
    · obtain ⟨hb, h1⟩ := if_ex hh
      refine Ny.ca _ _ _ (hy _ (by assumption)) h1 (fun C' Q' P' p => ?_)
      try simp only [hb, if']
      exact p
    · exact hh.elim
  case invokevirtual idx =>
    have hy : ∀ q, mth (mOw y) idx = some q → okY q.1 = true := fun q e => by
      have hi2 : (match mth (mOw y) idx with | some q => okY q.1 | none => true) = true := hi
      rw [e] at hi2
      exact hi2
    dsimp only [FH] at hh ⊢
    split at hh
    · split at hh
      · obtain ⟨hb, h1⟩ := if_ex hh
        obtain ⟨rfl, h2⟩ := rg_ex h1
        obtain ⟨a, rfl, h3⟩ := dr_ex h2
        refine Ny.ca _ _ _ (hy _ (by assumption)) h3 (fun C' Q' P' p => ?_)
        try simp only [hb, if', rg, Nat.beq_refl, dr]
        exact p
      · exact hh.elim
    · exact hh.elim
  case invokespecial idx =>
    have hy : ∀ q, mth (mOw y) idx = some q → okY q.1 = true := fun q e => by
      have hi2 : (match mth (mOw y) idx with | some q => okY q.1 | none => true) = true := hi
      rw [e] at hi2
      exact hi2
    dsimp only [FH] at hh ⊢
    split at hh
    · split at hh
      · obtain ⟨hb, h1⟩ := if_ex hh
        obtain ⟨a, rfl, h3⟩ := dr_ex h1
        refine Ny.go _ _ _ _ rfl h3 (fun C' Q' P' p => ?_)
        try simp only [hb, if', dr]
        exact p
      · exact hh.elim
    · split at hh
      · obtain ⟨hb, h1⟩ := if_ex hh
        obtain ⟨rfl, h2⟩ := rg_ex h1
        obtain ⟨a, rfl, h3⟩ := dr_ex h2
        refine Ny.ca _ _ _ (hy _ (by assumption)) h3 (fun C' Q' P' p => ?_)
        try simp only [hb, if', rg, Nat.beq_refl, dr]
        exact p
      · exact hh.elim
    · exact hh.elim
  case ireturn =>
    dsimp only [FH] at hh ⊢
    split at hh
    · split at hh
      · rename_i hc
        refine Ny.re _ hh (fun C' Q' P' p => ?_)
        exact p
      · rename_i hc
        refine Ny.re _ hh.2 (fun C' Q' P' p => ?_)
        try simp only [hc]
        exact ⟨hh.1, p⟩
      · exact hh.elim
    · exact hh.elim
  case lreturn =>
    dsimp only [FH] at hh ⊢
    split at hh
    · split at hh
      · rename_i hc
        refine Ny.re _ hh (fun C' Q' P' p => ?_)
        try simp only [hc]
        exact p
      · exact hh.elim
    · exact hh.elim
  case areturn =>
    dsimp only [FH] at hh ⊢
    split at hh
    · split at hh
      · rename_i hc
        split at hh
        · rename_i hd
          refine Ny.re _ hh (fun C' Q' P' p => ?_)
          try simp only [hc, hd]
          exact p
        · rename_i hd
          refine Ny.re _ hh (fun C' Q' P' p => ?_)
          try simp only [hc, hd]
          exact p
        · exact hh.elim
      · exact hh.elim
    · exact hh.elim
  case return_ =>
    dsimp only [FH] at hh ⊢
    split at hh
    · split at hh
      · rename_i hc
        refine Ny.re _ hh (fun C' Q' P' p => ?_)
        try simp only [hc]
        exact p
      · exact hh.elim
    · exact hh.elim
  all_goals exact (show False from hh).elim
theorem FS_ex5 {C : CT} {y : Nat} {Q : Option AV → Hp → Prop} {P : Nat → List AV → List AV → Hp → Prop} {pc : Nat} {ls st : List AV} {h : Hp} (ho : ∀ pc i, lk (mCo y) pc = some i → okI y i = true) (hh : FS C y Q P pc ls st h) : Ny C y Q P ls pc h (fun C' Q' P' => FS C' y Q' P' pc ls st h) := by
  unfold FS at hh ⊢
  split at hh
  · rename_i i hi
    unfold FI at hh ⊢
    split at hh
    · rename_i q hq
      refine Ny.go _ _ _ _ rfl hh (fun C' Q' P' p => ?_)
      try simp only [hq]
      exact p
    · rename_i hq
      split at hh
      · rename_i q hb
        by_cases e : q.1
        · refine Ny.go _ _ _ _ rfl (hh.1 e) (fun C' Q' P' p => ?_)
          try simp only [hq, hb]
          exact ⟨fun _ => p, fun n => absurd e n⟩
        · refine Ny.go _ _ _ _ rfl (hh.2 e) (fun C' Q' P' p => ?_)
          try simp only [hq, hb]
          exact ⟨fun n => absurd n e, fun _ => p⟩
      · rename_i hb
        rcases FH_ex5 i (ho _ _ hi) hh with ⟨a, b, c, d, l1, p, k⟩ | ⟨v, p, k⟩ | ⟨a, b, c, y0, p, k⟩
        · refine Ny.go a b c d l1 p (fun C' Q' P' p => ?_)
          try simp only [hq, hb]
          exact k C' Q' P' p
        · refine Ny.re v p (fun C' Q' P' p => ?_)
          try simp only [hq, hb]
          exact k C' Q' P' p
        · refine Ny.ca a b c y0 p (fun C' Q' P' p => ?_)
          try simp only [hq, hb]
          exact k C' Q' P' p
  · exact hh.elim
theorem lk_memI {l : List (Nat × Instr)} {pc : Nat} {i : Instr} (h : lk l pc = some i) : (pc, i) ∈ l := lk_mem h
theorem Call_5 (ho : ∀ y, okY y = true → ∀ pc i, lk (mCo y) pc = some i → okI y i = true) : ∀ (d y : Nat) (as : List AV) (h : Hp) (Q : Option AV → Hp → Prop), okY y = true → Call d y as h Q → Call d y as h (fun v h' => Q v h' ∧ jN h' 5 = jN h 5)
  | 0, _, _, _, _, _, hh => hh.elim
  | d + 1, y, as, h, Q, hy, hh => by
    refine hh (fun pc ls st h1 => Wp (Call d) y (fun v h' => Q v h' ∧ jN h' 5 = jN h1 5) pc ls st h1) ?_
    intro pc ls st h1 q
    rcases FS_ex5 (ho y hy) q with ⟨a, b, c, e, l1, w, k⟩ | ⟨v, p, k⟩ | ⟨a, b, c, y0, p, k⟩
    · refine Wp.step (k _ _ _ ?_)
      rw [← l1]
      exact w
    · exact Wp.step (k _ _ _ ⟨p, rfl⟩)
    · refine Wp.step (k _ _ _ (Call_mono ?_ (Call_5 ho d a b h1 _ y0 p)))
      rintro v0 h0 ⟨w, e0⟩
      rw [← e0]
      exact w
