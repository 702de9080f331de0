/-! how the relation goes over a write -/
theorem kOk_all : (List.range 12).all (fun t => (List.range (nfl t)).all (kOk t)) = true := by decide +kernel
theorem kOk_at {t k : Nat} (ht : t < 12) (hk : k < nfl t) : kOk t k = true := List.all_eq_true.mp (List.all_eq_true.mp kOk_all t (List.mem_range.mpr ht)) k (List.mem_range.mpr hk)
theorem up3_eq {α : Type} (f : Nat → Nat → Nat → α) (t a k : Nat) (v : α) : up3 f t a k v t a k = v := if_pos ⟨rfl, rfl, rfl⟩
theorem up3_ne {α : Type} {f : Nat → Nat → Nat → α} {t a k t' a' j : Nat} {v : α} (h : ¬ (t' = t ∧ a' = a)) : up3 f t a k v t' a' j = f t' a' j := if_neg (fun e => h ⟨e.1, e.2.1⟩)
theorem up3_k {α : Type} {f : Nat → Nat → Nat → α} {t a k t' a' j : Nat} {v : α} (h : j ≠ k) : up3 f t a k v t' a' j = f t' a' j := if_neg (fun e => h e.2.2)
theorem flds_at {h : Hp} {φ : Nat → Nat → Nat} {t a k : Nat} (hk : k < nfl t) : (flds h φ t a)[k]? = some (trv φ (gf h t a k)) := by
  unfold flds
  rw [List.getElem?_map, List.getElem?_range hk]
  rfl
theorem flds_len (h : Hp) (φ : Nat → Nat → Nat) (t a : Nat) : (flds h φ t a).length = nfl t := by
  unfold flds
  rw [List.length_map, List.length_range]
theorem flds_set {h h' : Hp} {φ : Nat → Nat → Nat} {t a k : Nat} {v : AV} (ho : ∀ j, j ≠ k → gf h' t a j = gf h t a j) (hv : gf h' t a k = v) : (flds h φ t a).set k (trv φ v) = flds h' φ t a := by
  refine List.ext_getElem? fun j => ?_
  by_cases hj : j < nfl t
  · rw [flds_at hj]
    by_cases e : k = j
    · subst e
      rw [List.getElem?_set_self (by rw [flds_len]; exact hj), hv]
    · rw [List.getElem?_set_ne e, flds_at hj, ho j (fun q => e q.symm)]
  · rw [List.getElem?_eq_none (by rw [List.length_set, flds_len]; omega), List.getElem?_eq_none (by rw [flds_len]; omega)]
theorem cellOf_obj {h : Hp} {φ : Nat → Nat → Nat} {cA : ClassId} {t a : Nat} (ht : t < 12) : cellOf h φ cA t a = .inr (t, flds h φ t a) := if_pos ht
theorem cellOf_int {h : Hp} {φ : Nat → Nat → Nat} {cA : ClassId} {t a : Nat} (ht : ¬ t < 12) (h2 : t < 25) : cellOf h φ cA t a = .inl (cA, jLen h t a, .inl (jI h t a)) := by
  unfold cellOf
  rw [if_neg ht, if_pos h2]
theorem cellOf_ref {h : Hp} {φ : Nat → Nat → Nat} {cA : ClassId} {t a : Nat} (h2 : ¬ t < 25) : cellOf h φ cA t a = .inl (cA, jLen h t a, .inr (.inr (.inr (.inr (fun k => (jR h t a k).map (φ (t - 30))))))) := by
  unfold cellOf
  rw [if_neg (by omega), if_neg h2]
theorem gf_ne {h h' : Hp} {t a k : Nat} (e1 : jI h' t a k = jI h t a k) (e2 : jL h' t a k = jL h t a k) (e3 : jR h' t a k = jR h t a k) : gf h' t a k = gf h t a k := by
  unfold gf
  rw [e1, e2, e3]
theorem cellOf_ne {h h' : Hp} {φ : Nat → Nat → Nat} {c : ClassId} {t a : Nat} (e0 : jLen h' t a = jLen h t a) (e1 : ∀ k, jI h' t a k = jI h t a k) (e2 : ∀ k, jL h' t a k = jL h t a k) (e3 : ∀ k, jR h' t a k = jR h t a k) : cellOf h' φ c t a = cellOf h φ c t a := by
  have f1 : jI h' t a = jI h t a := funext e1
  have f3 : jR h' t a = jR h t a := funext e3
  unfold cellOf flds
  rw [e0, f1, f3]
  have : (fun k => trv φ (gf h' t a k)) = fun k => trv φ (gf h t a k) := funext fun k => by rw [gf_ne (e1 k) (e2 k) (e3 k)]
  rw [this]
theorem fk_of {t k : Nat} (ht : t < 12) (hk : k < nfl t) : fk t k = 0 ∨ fk t k = 1 ∨ fk t k = 2 ∨ ∃ n, fk t k = n + 5 := by
  have h := kOk_at ht hk
  unfold kOk at h
  split at h
  · rename_i e; exact Or.inl e
  · rename_i e; exact Or.inr (Or.inl e)
  · rename_i e; exact Or.inr (Or.inr (Or.inl e))
  · cases h
  · cases h
  · rename_i n e; exact Or.inr (Or.inr (Or.inr ⟨n, e⟩))
theorem gf_I {h : Hp} {t a k : Nat} (hf : fk t k = 0 ∨ fk t k = 2) : gf h t a k = .inl (jI h t a k) := by
  unfold gf
  rcases hf with e | e <;> rw [e]
theorem gf_L {h : Hp} {t a k : Nat} (hf : fk t k = 1) : gf h t a k = .inr (.inl (jL h t a k)) := by
  unfold gf
  rw [hf]
theorem gf_R {h : Hp} {t a k n : Nat} (hf : fk t k = n + 5) : gf h t a k = .inr (.inr (n, jR h t a k)) := by
  unfold gf
  rw [hf]
/-- an int is written into an object -/
theorem Rel.putI {h : Hp} {ws : va_W} {tys : List (ClassId × FieldType)} {φ : Nat → Nat → Nat} (hR : Rel h ws tys φ) {t a k i : Nat} {cA : ClassId} (x : Int32) (ht : t < 12) (hk : k < nfl t) (ha : a < jN h t) (hf : fk t k = 0 ∨ fk t k = 2) (hi : ws[i]? = some (φ t a, cellOf h φ cA t a)) : Rel (wI h t a k x) (ws.set i (φ t a, .inr (t, (flds h φ t a).set k (.int x)))) tys φ := by
  have hg : ∀ t' a' k', vok h (gf h t' a' k') → vok h (gf (wI h t a k x) t' a' k') := by
    intro t' a' k' hv
    by_cases e : t' = t ∧ a' = a ∧ k' = k
    · obtain ⟨rfl, rfl, rfl⟩ := e
      rw [gf_I hf]; trivial
    · have eg : gf (wI h t a k x) t' a' k' = gf h t' a' k' := gf_ne (if_neg e) rfl rfl
      rw [eg]; exact hv
  refine hR.set (h' := wI h t a k x) (t := t) (a := a) (cA := cA) (by unfold hrg; simp [Nat.blt_eq, ht]) ha hi (fun h12 => absurd ht (by omega)) rfl (fun t' a' c hn => cellOf_ne rfl (fun k => up3_ne hn) (fun _ => rfl) (fun _ => rfl)) (fun t' a' k' x1 x2 x3 => hg t' a' k' (hR.2.2.1 t' a' k' x1 x2 x3)) (fun t' a' k' x1 x2 x3 => hR.2.2.2.1 t' a' k' x1 x2 x3) ?_
  rw [cellOf_obj ht]
  exact congrArg (fun z => (Sum.inr (t, z) : va_E)) (flds_set (v := .inl x) (fun j hj => gf_ne (up3_k hj) rfl rfl) (by rw [gf_I hf]; exact congrArg Sum.inl (up3_eq _ _ _ _ _)))
theorem Rel.putL {h : Hp} {ws : va_W} {tys : List (ClassId × FieldType)} {φ : Nat → Nat → Nat} (hR : Rel h ws tys φ) {t a k i : Nat} {cA : ClassId} (x : Int64) (ht : t < 12) (hk : k < nfl t) (ha : a < jN h t) (hf : fk t k = 1) (hi : ws[i]? = some (φ t a, cellOf h φ cA t a)) : Rel (wL h t a k x) (ws.set i (φ t a, .inr (t, (flds h φ t a).set k (.long x)))) tys φ := by
  have hg : ∀ t' a' k', vok h (gf h t' a' k') → vok h (gf (wL h t a k x) t' a' k') := by
    intro t' a' k' hv
    by_cases e : t' = t ∧ a' = a ∧ k' = k
    · obtain ⟨rfl, rfl, rfl⟩ := e
      rw [gf_L hf]; trivial
    · have eg : gf (wL h t a k x) t' a' k' = gf h t' a' k' := gf_ne rfl (if_neg e) rfl
      rw [eg]; exact hv
  refine hR.set (h' := wL h t a k x) (t := t) (a := a) (cA := cA) (by unfold hrg; simp [Nat.blt_eq, ht]) ha hi (fun h12 => absurd ht (by omega)) rfl (fun t' a' c hn => cellOf_ne rfl (fun _ => rfl) (fun k => up3_ne hn) (fun _ => rfl)) (fun t' a' k' x1 x2 x3 => hg t' a' k' (hR.2.2.1 t' a' k' x1 x2 x3)) (fun t' a' k' x1 x2 x3 => hR.2.2.2.1 t' a' k' x1 x2 x3) ?_
  rw [cellOf_obj ht]
  exact congrArg (fun z => (Sum.inr (t, z) : va_E)) (flds_set (v := .inr (.inl x)) (fun j hj => gf_ne rfl (up3_k hj) rfl) (by rw [gf_L hf]; exact congrArg (fun z => Sum.inr (Sum.inl z)) (up3_eq _ _ _ _ _)))
theorem Rel.putR {h : Hp} {ws : va_W} {tys : List (ClassId × FieldType)} {φ : Nat → Nat → Nat} (hR : Rel h ws tys φ) {t a k i n : Nat} {cA : ClassId} (o : Option Nat) (ht : t < 12) (hk : k < nfl t) (ha : a < jN h t) (hf : fk t k = n + 5) (hv : vok h (vR n o)) (hi : ws[i]? = some (φ t a, cellOf h φ cA t a)) : Rel (wR h t a k o) (ws.set i (φ t a, .inr (t, (flds h φ t a).set k (va_rf (o.map (φ n)))))) tys φ := by
  have hg : ∀ t' a' k', vok h (gf h t' a' k') → vok h (gf (wR h t a k o) t' a' k') := by
    intro t' a' k' hv'
    by_cases e : t' = t ∧ a' = a ∧ k' = k
    · obtain ⟨rfl, rfl, rfl⟩ := e
      rw [gf_R hf, show jR (wR h t' a' k' o) t' a' k' = o from up3_eq _ _ _ _ _]
      exact hv
    · have eg : gf (wR h t a k o) t' a' k' = gf h t' a' k' := gf_ne rfl rfl (if_neg e)
      rw [eg]; exact hv'
  refine hR.set (h' := wR h t a k o) (t := t) (a := a) (cA := cA) (by unfold hrg; simp [Nat.blt_eq, ht]) ha hi (fun h12 => absurd ht (by omega)) rfl (fun t' a' c hn => cellOf_ne rfl (fun _ => rfl) (fun _ => rfl) (fun k => up3_ne hn)) (fun t' a' k' x1 x2 x3 => hg t' a' k' (hR.2.2.1 t' a' k' x1 x2 x3)) (fun t' a' k' x1 x2 x3 => ?_) ?_
  · rw [show jR (wR h t a k o) t' a' k' = jR h t' a' k' from up3_ne (fun e => absurd ht (by omega))]
    exact hR.2.2.2.1 t' a' k' x1 x2 x3
  · rw [cellOf_obj ht]
    exact congrArg (fun z => (Sum.inr (t, z) : va_E)) (flds_set (v := .inr (.inr (n, o))) (fun j hj => gf_ne rfl rfl (up3_k hj)) (by rw [gf_R hf]; exact congrArg (fun z => Sum.inr (Sum.inr (n, z))) (up3_eq _ _ _ _ _)))
theorem gf_arr {h h' : Hp} {t a k : Nat} (hI : ∀ t' a' k', t' < 12 → jI h' t' a' k' = jI h t' a' k') (hL : jL h' = jL h) (hRR : ∀ t' a' k', t' < 12 → jR h' t' a' k' = jR h t' a' k') (ht : t < 12) : gf h' t a k = gf h t a k := gf_ne (hI t a k ht) (by rw [hL]) (hRR t a k ht)
/-- an int is written into a row -/
theorem Rel.putA {h : Hp} {ws : va_W} {tys : List (ClassId × FieldType)} {φ : Nat → Nat → Nat} (hR : Rel h ws tys φ) {t a k i : Nat} {cA : ClassId} (x : Int32) (ht : 21 ≤ t) (ht2 : t < 25) (ha : a < jN h t) (hi : ws[i]? = some (φ t a, cellOf h φ cA t a)) (hj : ∃ j : Nat, tys[j]? = some (cA, atf t)) : Rel (wI h t a k x) (ws.set i (φ t a, .inl (cA, jLen h t a, .inl (upd (jI h t a) k x)))) tys φ := by
  refine hR.set (h' := wI h t a k x) (t := t) (a := a) (cA := cA) (by unfold hrg; simp [Nat.blt_eq, Nat.ble_eq]; omega) ha hi (fun _ => hj) rfl (fun t' a' c hn => cellOf_ne rfl (fun k => up3_ne hn) (fun _ => rfl) (fun _ => rfl)) (fun t' a' k' x1 x2 x3 => ?_) (fun t' a' k' x1 x2 x3 => hR.2.2.2.1 t' a' k' x1 x2 x3) ?_
  · have eg : gf (wI h t a k x) t' a' k' = gf h t' a' k' := gf_ne (up3_ne (fun e => absurd x1 (by omega))) rfl rfl
    rw [eg]
    exact hR.2.2.1 t' a' k' x1 x2 x3
  · rw [cellOf_int (by omega) ht2]
    have : upd (jI h t a) k x = jI (wI h t a k x) t a := by
      funext j
      show (if j = k then x else jI h t a j) = if t = t ∧ a = a ∧ j = k then x else jI h t a j
      by_cases e : j = k
      · rw [if_pos e, if_pos ⟨rfl, rfl, e⟩]
      · rw [if_neg e, if_neg (fun q => e q.2.2)]
    rw [this]
    rfl
theorem Rel.putB {h : Hp} {ws : va_W} {tys : List (ClassId × FieldType)} {φ : Nat → Nat → Nat} (hR : Rel h ws tys φ) {t a k i : Nat} {cA : ClassId} (o : Option Nat) (ht : 30 ≤ t) (ht2 : t < 40) (ha : a < jN h t) (hv : vok h (vR (t - 30) o)) (hi : ws[i]? = some (φ t a, cellOf h φ cA t a)) (hj : ∃ j : Nat, tys[j]? = some (cA, atf t)) : Rel (wR h t a k o) (ws.set i (φ t a, .inl (cA, jLen h t a, .inr (.inr (.inr (.inr (va_up (fun k => (jR h t a k).map (φ (t - 30))) k (o.map (φ (t - 30)))))))))) tys φ := by
  refine hR.set (h' := wR h t a k o) (t := t) (a := a) (cA := cA) (by unfold hrg; simp [Nat.blt_eq, Nat.ble_eq]; omega) ha hi (fun _ => hj) rfl (fun t' a' c hn => cellOf_ne rfl (fun _ => rfl) (fun _ => rfl) (fun k => up3_ne hn)) (fun t' a' k' x1 x2 x3 => ?_) (fun t' a' k' x1 x2 x3 => ?_) ?_
  · have eg : gf (wR h t a k o) t' a' k' = gf h t' a' k' := gf_ne rfl rfl (up3_ne (fun e => absurd x1 (by omega)))
    rw [eg]
    exact hR.2.2.1 t' a' k' x1 x2 x3
  · by_cases e : t' = t ∧ a' = a ∧ k' = k
    · obtain ⟨rfl, rfl, rfl⟩ := e
      rw [show jR (wR h t' a' k' o) t' a' k' = o from up3_eq _ _ _ _ _]
      exact hv
    · rw [show jR (wR h t a k o) t' a' k' = jR h t' a' k' from if_neg e]
      exact hR.2.2.2.1 t' a' k' x1 x2 x3
  · rw [cellOf_ref (by omega)]
    have : (va_up (fun k => (jR h t a k).map (φ (t - 30))) k (o.map (φ (t - 30)))) = fun j => (jR (wR h t a k o) t a j).map (φ (t - 30)) := by
      funext j
      show (if j = k then o.map (φ (t - 30)) else (jR h t a j).map (φ (t - 30))) = Option.map (φ (t - 30)) (if t = t ∧ a = a ∧ j = k then o else jR h t a j)
      by_cases e : j = k
      · rw [if_pos e, if_pos ⟨rfl, rfl, e⟩]
      · rw [if_neg e, if_neg (fun q => e q.2.2)]
    rw [this]
    rfl
