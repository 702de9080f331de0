/-! THE SOUNDNESS OF THE ABSTRACT MACHINE -/
def rmd (d mc ms : Nat) : Room := { frames := d + 2, cells := mc, slots := ms, locals := 64 * d + 192 }
def TW (y : Nat) : List Cond := Cond.code (mNm y) (mBy y) (mLo y) (mRt y) :: lw_good
def PcA (D : va_G) (φ : Nat → Nat → Nat) (ws : va_W) (tys : List (ClassId × FieldType)) (sz : Nat) (as : List AV) : Array Value → State → Prop := va_Pc (as.map (trv φ)) (fun U => U.heap.size = sz ∧ va_K D clsL tys U ∧ va_P D clsL ws U.heap ∧ va_D (fun _ => True) ws ∧ Rom φ (va_A ws sz) U U.heap)
def QcA (D : va_G) (h : Hp) (φ : Nat → Nat → Nat) (ws : va_W) (sz : Nat) (rv : Option AV) (h1 : Hp) : Array Value → State → Outcome → State → Prop := fun _ st oc t => (∃ (ws' : va_W) (tys' : List (ClassId × FieldType)) (φ' : Nat → Nat → Nat), oc = .returned (rv.map (trv φ')) ∧ (∀ v, rv = some v → vok h1 v) ∧ Rel h1 ws' tys' φ' ∧ (∀ t a, a < jN h t → φ' t a = φ t a) ∧ va_K D clsL tys' t ∧ va_P D clsL ws' t.heap ∧ va_D (va_A ws sz) ws') ∧ va_F (va_A ws sz) st t
theorem PcA_blind {D : va_G} {φ : Nat → Nat → Nat} {ws : va_W} {tys : List (ClassId × FieldType)} {sz : Nat} {as : List AV} : FrameBlind (PcA D φ ws tys sz as) := fun a U g mk q => by
  obtain ⟨q0, q1, qK, qP, qD, qr⟩ := q
  exact ⟨q0, q1, va_K.moved (u := U) (U := U.calling g mk a) (Vm.Alike.refl U.vm) qK, qP, qD, Rom.blind (s := U) (U := U.calling g mk a) rfl qr⟩
def SoundAt (l : Launch) (d : Nat) : Prop := ∀ (y : Nat) (as : List AV) (h : Hp) (rv : Option AV) (h1 : Hp), y < 239 → wt as ≤ mLo y → Call d y as h (fun v h' => v = rv ∧ h' = h1) → ∀ (D : va_G) (ws : va_W) (tys : List (ClassId × FieldType)) (φ : Nat → Nat → Nat) (sz : Nat), Rel h ws tys φ → (∀ v ∈ as, vok h v) → Met l (mNm y) (TW y) (rmd d (jC h1 - jC h) (jZ h1 - jZ h)) (PcA D φ ws tys sz as) (QcA D h φ ws sz rv h1) (jC h1 - jC h) (jZ h1 - jZ h) (va_A ws sz)
theorem good_TW {y : Nat} (hy : y < 239) : GoodIn lw_good (TW y) := fun w hw => by
  have : w ∈ lw_good := by
    rcases List.mem_cons.mp hw with rfl | hw
    · exact cwd_ok y hy
    · exact hw
  exact ⟨this, good_of_word (lw_good_good this).2⟩
theorem mth_ex {own idx y ns : Nat} (hf : mth own idx = some (y, ns)) (hy : y < 239) : (ns = 0 ∧ Cond.methodLink (cnm own) idx (mNm y) ∈ lw_good) ∨ (ns ≠ 0 ∧ Cond.methodLinkNest (cnm own) idx (mNm y) "HeraldDesk" ∈ nestL) := by
  obtain ⟨j, hj⟩ := all_zip mth_ok mth_len _ (lk2_mem hf)
  unfold chkT at hj
  split at hj
  · rename_i e
    simp only [Prod.mk.injEq] at e
    omega
  · rename_i e
    simp only [Prod.mk.injEq] at e
    omega
  · rename_i e
    simp only [Prod.mk.injEq] at e
    omega
  · rename_i e
    simp only [Prod.mk.injEq] at e
    omega
  · rename_i e
    simp only [Prod.mk.injEq] at e
    omega
  · rename_i e
    simp only [Prod.mk.injEq] at e
    obtain ⟨⟨rfl, rfl, rfl, rfl⟩, rfl⟩ := e
    simp only [Bool.and_eq_true] at hj
    exact Or.inl ⟨rfl, wOK_mem hj.2⟩
  · rename_i hn e
    simp only [Prod.mk.injEq] at e
    obtain ⟨⟨rfl, rfl, rfl, rfl⟩, rfl⟩ := e
    simp only [Bool.and_eq_true, decide_eq_true_eq] at hj
    refine Or.inr ⟨fun z => ?_, List.mem_of_getElem? hj.2⟩
    subst z
    exact hn rfl
theorem mth_sp {own idx y ns : Nat} (hf : mth own idx = some (y, ns)) : (y = 9999 → Cond.methodLink (cnm own) idx objectInit ∈ lw_good) ∧ (y = 9998 → Cond.methodLink (cnm own) idx ckName ∈ lw_good) ∧ (y = 9997 → Cond.methodLink (cnm own) idx Lib.Math.min.name ∈ lw_good) ∧ (y = 9996 → Cond.methodLink (cnm own) idx Lib.Math.max.name ∈ lw_good) ∧ (y = 9995 → Cond.methodLink (cnm own) idx Lib.Math.abs.name ∈ lw_good) := by
  obtain ⟨j, hj⟩ := all_zip mth_ok mth_len _ (lk2_mem hf)
  unfold chkT at hj
  split at hj
  all_goals
    rename_i e
    simp only [Prod.mk.injEq] at e
    obtain ⟨⟨rfl, rfl, rfl, rfl⟩, rfl⟩ := e
  · exact ⟨fun _ => wOK_mem hj, fun z => absurd z (by decide), fun z => absurd z (by decide), fun z => absurd z (by decide), fun z => absurd z (by decide)⟩
  · exact ⟨fun z => absurd z (by decide), fun _ => wOK_mem hj, fun z => absurd z (by decide), fun z => absurd z (by decide), fun z => absurd z (by decide)⟩
  · exact ⟨fun z => absurd z (by decide), fun z => absurd z (by decide), fun _ => wOK_mem hj, fun z => absurd z (by decide), fun z => absurd z (by decide)⟩
  · exact ⟨fun z => absurd z (by decide), fun z => absurd z (by decide), fun z => absurd z (by decide), fun _ => wOK_mem hj, fun z => absurd z (by decide)⟩
  · exact ⟨fun z => absurd z (by decide), fun z => absurd z (by decide), fun z => absurd z (by decide), fun z => absurd z (by decide), fun _ => wOK_mem hj⟩
  · simp only [Bool.and_eq_true, Nat.blt_eq] at hj
    have := hj.1
    exact ⟨fun z => by omega, fun z => by omega, fun z => by omega, fun z => by omega, fun z => by omega⟩
  · simp only [Bool.and_eq_true, Nat.blt_eq] at hj
    have := hj.1
    exact ⟨fun z => by omega, fun z => by omega, fun z => by omega, fun z => by omega, fun z => by omega⟩
theorem dec_ex {y pc : Nat} {i : Instr} (hy : y < 239) (hi : lk (mCo y) pc = some i) : chkD y (pc, i) = true := List.all_eq_true.mp (dk_ok y hy) _ (lk_mem hi)
/-- where an instruction is no switch -/
theorem dec_at {y pc : Nat} {i : Instr} (h : chkD y (pc, i) = true) (h1 : ∀ d lo hi os, i ≠ .tableswitch d lo hi os) (h2 : ∀ d os, i ≠ .lookupswitch d os) : decode (mBy y) pc = .ok (i, ilen i) := by
  unfold chkD at h
  split at h
  · rename_i i' n hd
    simp only [Bool.and_eq_true, decide_eq_true_eq] at h
    obtain ⟨rfl, h3⟩ := h
    rw [hd]
    split at h3
    · exact absurd rfl (h1 _ _ _ _)
    · exact absurd rfl (h2 _ _)
    · simp only [Bool.and_eq_true] at h3
      rw [Nat.eq_of_beq_eq_true h3.1]
      rfl
    · rw [Nat.eq_of_beq_eq_true h3]
  · cases h
theorem wt_len (as : List AV) : (entL as).length = wt as := by
  induction as with
  | nil => rfl
  | cons v r ih =>
    rcases v with x | x | x
    · show (entL r).length + 1 = wt r + 1; rw [ih]
    · show (entL r).length + 1 + 1 = wt r + 2; rw [ih]
    · show (entL r).length + 1 = wt r + 1; rw [ih]
theorem sl_len (φ : Nat → Nat → Nat) (as : List AV) : (lg_sl (as.map (trv φ))).length = wt as := by
  induction as with
  | nil => rfl
  | cons v r ih =>
    rcases v with x | x | ⟨t, o⟩
    · show (lg_sl (Value.int x :: r.map (trv φ))).length = wt r + 1
      rw [← ih]; simp [lg_sl, Value.category] <;> try omega
    · show (lg_sl (Value.long x :: r.map (trv φ))).length = wt r + 2
      rw [← ih]; simp [lg_sl, Value.category] <;> try omega
    · show (lg_sl (va_rf (o.map (φ t)) :: r.map (trv φ))).length = wt r + 1
      rw [← ih]
      cases o <;> simp [lg_sl, Value.category, va_rf] <;> omega
theorem prl_un (φ : Nat → Nat → Nat) (n i : Nat) : prl φ i (List.replicate n un) = [] := by
  induction n generalizing i with
  | zero => rfl
  | succ n ih => exact ih (i + 1)
theorem prl_ent (φ : Nat → Nat → Nat) (as : List AV) (n i : Nat) : ∀ q ∈ prl φ i (entL as ++ List.replicate n un), q ∈ lv_args i (as.map (trv φ)) := by
  induction as generalizing i with
  | nil => intro q hq; rw [show entL [] ++ List.replicate n un = List.replicate n un from rfl, prl_un] at hq; cases hq
  | cons v r ih =>
    rcases v with x | x | ⟨t, o⟩
    · intro q hq
      rcases List.mem_cons.mp (show q ∈ (i, Value.int x) :: prl φ (i + 1) (entL r ++ List.replicate n un) from hq) with rfl | hq
      · exact List.mem_cons_self
      · exact List.mem_cons_of_mem _ (ih (i + 1) q hq)
    · intro q hq
      rcases List.mem_cons.mp (show q ∈ (i, Value.long x) :: prl φ (i + 2) (entL r ++ List.replicate n un) from hq) with rfl | hq
      · exact List.mem_cons_self
      · exact List.mem_cons_of_mem _ (ih (i + 2) q hq)
    · intro q hq
      have hc : ∀ z, lv_args i (va_rf (o.map (φ t)) :: z) = (i, va_rf (o.map (φ t))) :: lv_args (i + 1) z := by
        intro z
        cases o <;> rfl
      show q ∈ lv_args i (va_rf (o.map (φ t)) :: r.map (trv φ))
      rw [hc]
      have hq : q ∈ prl φ i (.inr (.inr (t, o)) :: (entL r ++ List.replicate n un)) := hq
      unfold prl at hq
      split at hq
      · exact List.mem_cons_of_mem _ (ih (i + 1) q hq)
      · rcases List.mem_cons.mp hq with rfl | hq
        · exact List.mem_cons_self
        · exact List.mem_cons_of_mem _ (ih (i + 1) q hq)
theorem ent_vok {h : Hp} {as : List AV} (hv : ∀ v ∈ as, vok h v) (n : Nat) : ∀ v ∈ entLs as n, vok h v := by
  intro v hm
  rcases List.mem_append.mp hm with hm | hm
  · induction as with
    | nil => cases hm
    | cons a r ih =>
      rcases a with x | x | x
      · rcases List.mem_cons.mp (show v ∈ Sum.inl x :: entL r from hm) with rfl | hm
        · trivial
        · exact ih (vok_tl hv) (List.mem_append_left _ hm) hm
      · rcases List.mem_cons.mp (show v ∈ Sum.inr (Sum.inl x) :: un :: entL r from hm) with rfl | hm
        · trivial
        · rcases List.mem_cons.mp hm with rfl | hm
          · trivial
          · exact ih (vok_tl hv) (List.mem_append_left _ hm) hm
      · rcases List.mem_cons.mp (show v ∈ Sum.inr (Sum.inr x) :: entL r from hm) with rfl | hm
        · exact hv _ List.mem_cons_self
        · exact ih (vok_tl hv) (List.mem_append_left _ hm) hm
  · rw [(List.mem_replicate.mp hm).2]; trivial
theorem wt_cat (φ : Nat → Nat → Nat) (st : List AV) : ((st.map (trv φ)).map fun v => v.category).sum = wt st := by
  induction st with
  | nil => rfl
  | cons v r ih =>
    rcases v with x | x | ⟨t, o⟩
    · show 1 + ((r.map (trv φ)).map fun v => v.category).sum = wt r + 1; omega
    · show 2 + ((r.map (trv φ)).map fun v => v.category).sum = wt r + 2; omega
    · show (va_rf (o.map (φ t))).category + ((r.map (trv φ)).map fun v => v.category).sum = wt r + 1
      rw [rf_cat]; omega
