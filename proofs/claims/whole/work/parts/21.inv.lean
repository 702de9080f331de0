/-! what the steps that call and answer say -/
theorem FH_static {C : CT} {y pc idx : Nat} {Q : Option AV → Hp → Prop} {P : Nat → List AV → List AV → Hp → Prop} {ls st : List AV} {h : Hp} (hF : FH C y Q P pc ls st h (.invokestatic idx)) :
    (∃ ns n j r, mth (mOw y) idx = some (9998, ns) ∧ st = .inl n :: .inl j :: r ∧ wt r ≤ 8 ∧ (¬ j < 0 ∧ j < n) ∧ P (pc + 3) ls r h) ∨
    (∃ ns b a r, mth (mOw y) idx = some (9997, ns) ∧ st = .inl b :: .inl a :: r ∧ wt r ≤ 8 ∧ P (pc + 3) ls (.inl (mn2 a b) :: r) h) ∨
    (∃ ns b a r, mth (mOw y) idx = some (9996, ns) ∧ st = .inl b :: .inl a :: r ∧ wt r ≤ 8 ∧ P (pc + 3) ls (.inl (mx2 a b) :: r) h) ∨
    (∃ ns a r, mth (mOw y) idx = some (9995, ns) ∧ st = .inl a :: r ∧ wt r ≤ 8 ∧ P (pc + 3) ls (.inl (ab1 a) :: r) h) ∨
    (∃ y' ns, mth (mOw y) idx = some (y', ns) ∧ y' < 239 ∧ mKi y' = 0 ∧ mPa y' ≤ st.length ∧ wt (st.drop (mPa y')) ≤ 8 ∧ wt (st.take (mPa y')) ≤ mLo y' ∧ C y' (st.take (mPa y')).reverse h (fun v h' => P (pc + 3) ls (cons? v (st.drop (mPa y'))) h')) := by
  dsimp only [FH] at hF
  split at hF
  · split at hF
    · obtain ⟨hb, h1, h2⟩ := if_ex hF
      exact Or.inl ⟨_, _, _, _, by assumption, rfl, Nat.ble_eq.mp hb, h1, h2⟩
    · exact hF.elim
  · split at hF
    · obtain ⟨hb, h1⟩ := if_ex hF
      exact Or.inr (Or.inl ⟨_, _, _, _, by assumption, rfl, Nat.ble_eq.mp hb, h1⟩)
    · exact hF.elim
  · split at hF
    · obtain ⟨hb, h1⟩ := if_ex hF
      exact Or.inr (Or.inr (Or.inl ⟨_, _, _, _, by assumption, rfl, Nat.ble_eq.mp hb, h1⟩))
    · exact hF.elim
  · split at hF
    · obtain ⟨hb, h1⟩ := if_ex hF
      exact Or.inr (Or.inr (Or.inr (Or.inl ⟨_, _, _, by assumption, rfl, Nat.ble_eq.mp hb, h1⟩)))
    · exact hF.elim
  · obtain ⟨hb, h1⟩ := if_ex hF
    simp only [Bool.and_eq_true, Nat.blt_eq, Nat.ble_eq, beqT] at hb
    exact Or.inr (Or.inr (Or.inr (Or.inr ⟨_, _, by assumption, hb.1.1.1.1, hb.1.1.1.2, hb.1.1.2, hb.1.2, hb.2, h1⟩)))
  · exact hF.elim
theorem FH_virtual {C : CT} {y pc idx : Nat} {Q : Option AV → Hp → Prop} {P : Nat → List AV → List AV → Hp → Prop} {ls st : List AV} {h : Hp} (hF : FH C y Q P pc ls st h (.invokevirtual idx)) :
    ∃ y' a r, mth (mOw y) idx = some (y', 0) ∧ st.drop (mPa y') = .inr (.inr (mOw y', some a)) :: r ∧ y' < 239 ∧ mKi y' = 1 ∧ wt r ≤ 8 ∧ 1 + wt (st.take (mPa y')) ≤ mLo y' ∧ C y' (.inr (.inr (mOw y', some a)) :: (st.take (mPa y')).reverse) h (fun v h' => P (pc + 3) ls (cons? v r) h') := by
  dsimp only [FH] at hF
  split at hF
  · split at hF
    · obtain ⟨hb, h1⟩ := if_ex hF
      obtain ⟨rfl, h2⟩ := rg_ex h1
      obtain ⟨a, rfl, h3⟩ := dr_ex h2
      simp only [Bool.and_eq_true, Nat.blt_eq, Nat.ble_eq, beqT] at hb
      obtain ⟨⟨⟨⟨b1, b2⟩, rfl⟩, b4⟩, b5⟩ := hb
      exact ⟨_, a, _, by assumption, by assumption, b1, b2, b4, b5, h3⟩
    · exact hF.elim
  · exact hF.elim
theorem FH_special {C : CT} {y pc idx : Nat} {Q : Option AV → Hp → Prop} {P : Nat → List AV → List AV → Hp → Prop} {ls st : List AV} {h : Hp} (hF : FH C y Q P pc ls st h (.invokespecial idx)) :
    (∃ ns t a r, mth (mOw y) idx = some (9999, ns) ∧ st = .inr (.inr (t, some a)) :: r ∧ wt r ≤ 8 ∧ P (pc + 3) ls r h) ∨
    ∃ y' ns a r, mth (mOw y) idx = some (y', ns) ∧ st.drop (mPa y') = .inr (.inr (mOw y', some a)) :: r ∧ y' < 239 ∧ mKi y' = 2 ∧ wt r ≤ 8 ∧ 1 + wt (st.take (mPa y')) ≤ mLo y' ∧ C y' (.inr (.inr (mOw y', some a)) :: (st.take (mPa y')).reverse) h (fun v h' => P (pc + 3) ls (cons? v r) h') := by
  dsimp only [FH] at hF
  split at hF
  · split at hF
    · obtain ⟨hb, h1⟩ := if_ex hF
      obtain ⟨a, rfl, h3⟩ := dr_ex h1
      exact Or.inl ⟨_, _, a, _, by assumption, rfl, Nat.ble_eq.mp hb, h3⟩
    · exact hF.elim
  · split at hF
    · obtain ⟨hb, h1⟩ := if_ex hF
      obtain ⟨rfl, h2⟩ := rg_ex h1
      obtain ⟨a, rfl, h3⟩ := dr_ex h2
      simp only [Bool.and_eq_true, Nat.blt_eq, Nat.ble_eq, beqT] at hb
      obtain ⟨⟨⟨b1, b2⟩, b4⟩, b5⟩ := hb
      exact Or.inr ⟨_, _, a, _, by assumption, by assumption, b1, b2, b4, b5, h3⟩
    · exact hF.elim
  · exact hF.elim
theorem rOk_ex {y : Nat} (h : rOk y = true) : (mRc y = 0 → mRt y = none) ∧ (mRc y = 1 → mRt y = some .int) ∧ (mRc y = 3 → mRt y = some .long) ∧ ∀ n, mRc y = n + 5 → ∃ rt, mRt y = some rt ∧ ((∃ C, rt = .object C) ∨ ∃ C, rt = .array C) := by
  unfold rOk at h
  split at h
  all_goals first
    | exact absurd h Bool.false_ne_true
    | (rename_i e1 e2
       refine ⟨fun z => ?_, fun z => ?_, fun z => ?_, fun n z => ?_⟩
       all_goals first
         | exact e2
         | (rw [e1] at z; omega)
         | exact ⟨_, e2, Or.inl ⟨_, rfl⟩⟩
         | exact ⟨_, e2, Or.inr ⟨_, rfl⟩⟩)
theorem wt_app (a b : List AV) : wt (a ++ b) = wt a + wt b := by
  induction a with
  | nil => rw [List.nil_append]; exact (Nat.zero_add _).symm
  | cons v r ih =>
    rcases v with x | x | x
    · show wt (r ++ b) + 1 = wt r + 1 + wt b; omega
    · show wt (r ++ b) + 2 = wt r + 2 + wt b; omega
    · show wt (r ++ b) + 1 = wt r + 1 + wt b; omega
theorem wt_rev (a : List AV) : wt a.reverse = wt a := by
  induction a with
  | nil => rfl
  | cons v r ih =>
    rw [List.reverse_cons, wt_app, ih]
    rcases v with x | x | x
    · rfl
    · rfl
    · rfl
theorem noPut : (List.range 239).all (fun z => !(Nat.beq (mOw z) 40) || (mCo z).all (fun q => match q.2 with
  | .putfield _ => false
  | _ => true)) = true := by decide +kernel
theorem fld40 : (fldL.zip fldL).all (fun q => !(Nat.beq q.1.2.2.1 40) || Nat.beq q.1.1 40) = true := by decide +kernel
theorem put40 {y pc idx k ns : Nat} (hy : y < 239) (hi : lk (mCo y) pc = some (.putfield idx)) (hf : fld (mOw y) idx = some (40, k, ns)) : False := by
  obtain ⟨j, hj⟩ := all_zip fld40 (Nat.le_refl _) _ (lk2_mem hf)
  simp only [Bool.or_eq_true, Bool.not_eq_true', beqT] at hj
  rcases hj with hj | hj
  · exact absurd hj (by decide)
  · have hput := List.all_eq_true.mp noPut y (List.mem_range.mpr hy)
    simp only [Bool.or_eq_true, Bool.not_eq_true'] at hput
    rcases hput with hput | hput
    · rw [hj] at hput; exact absurd hput (by decide)
    · exact absurd (List.all_eq_true.mp hput _ (lk_mem hi)) Bool.false_ne_true
