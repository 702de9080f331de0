/-! THE RELATION between an abstract heap and the machine's: addresses by region and id -/
def trv (φ : Nat → Nat → Nat) : AV → Value
  | .inl x => .int x
  | .inr (.inl x) => .long x
  | .inr (.inr (t, o)) => va_rf (o.map (φ t))
def isUn : AV → Bool
  | .inr (.inr (t, _)) => Nat.beq t 999
  | _ => false
def prl (φ : Nat → Nat → Nat) : Nat → List AV → List (Nat × Value)
  | _, [] => []
  | i, v :: r => match isUn v with
    | true => prl φ (i + 1) r
    | false => (i, trv φ v) :: prl φ (i + 1) r
theorem gt_some {ls : List AV} {k : Nat} {v : AV} (h : gt ls k = some v) : k < ls.length := by
  induction ls generalizing k with
  | nil => cases h
  | cons a r ih =>
    cases k with
    | zero => exact Nat.succ_pos _
    | succ k => exact Nat.succ_lt_succ (ih h)
theorem stt_len (ls : List AV) (i : Nat) (v : AV) : (stt ls i v).length = ls.length := by
  induction ls generalizing i with
  | nil => rfl
  | cons a r ih =>
    cases i with
    | zero => rfl
    | succ i => show (stt r i v).length + 1 = _; rw [ih]; rfl
theorem gt_stt_ne {ls : List AV} {i k : Nat} (v : AV) (h : k ≠ i) : gt (stt ls i v) k = gt ls k := by
  induction ls generalizing i k with
  | nil => rfl
  | cons a r ih =>
    cases i with
    | zero =>
      cases k with
      | zero => exact absurd rfl h
      | succ k => rfl
    | succ i =>
      cases k with
      | zero => rfl
      | succ k => exact ih (fun e => h (by rw [e]))
theorem gt_stt_eq {ls : List AV} {i : Nat} {v w : AV} (h : gt (stt ls i v) i = some w) : w = v := by
  induction ls generalizing i with
  | nil => cases h
  | cons a r ih =>
    cases i with
    | zero => exact (Option.some.inj h).symm
    | succ i => exact ih h
theorem mem_prl {φ : Nat → Nat → Nat} {ls : List AV} {i : Nat} {q : Nat × Value} : q ∈ prl φ i ls ↔ ∃ k v, gt ls k = some v ∧ isUn v = false ∧ q = (i + k, trv φ v) := by
  induction ls generalizing i with
  | nil =>
    constructor
    · intro h; cases h
    · rintro ⟨k, v, h, -⟩; cases h
  | cons a r ih =>
    constructor
    · intro h
      unfold prl at h
      split at h
      · obtain ⟨k, v, h1, h2, h3⟩ := ih.mp h
        exact ⟨k + 1, v, h1, h2, by rw [h3]; congr 1; omega⟩
      · rename_i hu
        rcases List.mem_cons.mp h with h | h
        · exact ⟨0, a, rfl, hu, h⟩
        · obtain ⟨k, v, h1, h2, h3⟩ := ih.mp h
          exact ⟨k + 1, v, h1, h2, by rw [h3]; congr 1; omega⟩
    · rintro ⟨k, v, h1, h2, h3⟩
      unfold prl
      cases k with
      | zero =>
        cases Option.some.inj h1
        rw [h2]
        exact List.mem_cons.mpr (Or.inl h3)
      | succ k =>
        have h4 : q ∈ prl φ (i + 1) r := ih.mpr ⟨k, v, h1, h2, by rw [h3]; congr 1; omega⟩
        split
        · exact h4
        · exact List.mem_cons_of_mem _ h4
theorem lv_gt {φ : Nat → Nat → Nat} {L : Array Slot} {nL : Nat} {ls : List AV} {k : Nat} {v : AV} (hl : lv_has L nL (prl φ 0 ls)) (h : gt ls k = some v) (hu : isUn v = false) : L[k]? = some (.val (trv φ v)) := by
  have := hl.2.2 (k, trv φ v) (mem_prl.mpr ⟨k, v, h, hu, by rw [Nat.zero_add]⟩)
  exact this
theorem trv_cat2 {φ : Nat → Nat → Nat} {v : AV} (h : (trv φ v).category = 2) : ∃ x, v = .inr (.inl x) := by
  rcases v with x | x | ⟨t, o⟩
  · cases h
  · exact ⟨x, rfl⟩
  · cases o <;> cases h
theorem lv_st1 {φ : Nat → Nat → Nat} {L : Array Slot} {nL : Nat} {ls ls' : List AV} {i : Nat} {v : AV} (h1 : st1 ls i v = some ls') (hl : lv_has L nL ((i, trv φ v) :: (prl φ 0 ls).filter (fun q => !(q.1 == i) && !(q.1 + 1 == i && q.2.category == 2)))) : lv_has L nL (prl φ 0 ls') ∧ ls' = stt ls i v ∧ i < ls.length := by
  have key : ls' = stt ls i v ∧ i < ls.length ∧ ∀ j, j + 1 = i → ∀ x, gt ls j ≠ some (.inr (.inl x)) := by
    unfold st1 at h1
    split at h1
    · cases h1
    · rename_i w hw
      split at h1
      · cases h1
        exact ⟨rfl, gt_some hw, fun j hj => absurd hj (by omega)⟩
      · rename_i j0
        split at h1
        · cases h1
        · rename_i hn
          cases h1
          exact ⟨rfl, gt_some hw, fun j hj x hx => by
            have : j = j0 := by omega
            subst this
            exact hn x hx⟩
  obtain ⟨rfl, hi, hlong⟩ := key
  refine ⟨⟨hl.1, hl.2.1, fun q hq => ?_⟩, rfl, hi⟩
  obtain ⟨k, w, g1, g2, rfl⟩ := mem_prl.mp hq
  rw [Nat.zero_add]
  by_cases e : k = i
  · subst e
    rw [gt_stt_eq g1]
    exact hl.2.2 (k, trv φ v) List.mem_cons_self
  · rw [gt_stt_ne v e] at g1
    refine hl.2.2 (k, trv φ w) (List.mem_cons_of_mem _ (List.mem_filter.mpr ⟨mem_prl.mpr ⟨k, w, g1, g2, by rw [Nat.zero_add]⟩, ?_⟩))
    simp only [Bool.and_eq_true, Bool.not_eq_true', beq_eq_false_iff_ne, ne_eq, Bool.and_eq_false_iff]
    refine ⟨e, ?_⟩
    by_cases e2 : k + 1 = i
    · right
      intro hc
      obtain ⟨x, rfl⟩ := trv_cat2 hc
      exact hlong k e2 x g1
    · left
      exact e2
theorem lv_st2 {φ : Nat → Nat → Nat} {L : Array Slot} {nL : Nat} {ls ls' : List AV} {i : Nat} {v : AV} (h1 : st2 ls i v = some ls') (hl : lv_has L nL ((i, trv φ v) :: (prl φ 0 ls).filter (fun q => !(q.1 == i) && (!(q.1 == i + 1) && !(q.1 + 1 == i && q.2.category == 2))))) : lv_has L nL (prl φ 0 ls') ∧ ls' = stt (stt ls i v) (i + 1) un ∧ i + 1 < ls.length := by
  have key : ls' = stt (stt ls i v) (i + 1) un ∧ i + 1 < ls.length ∧ ∀ j, j + 1 = i → ∀ x, gt ls j ≠ some (.inr (.inl x)) := by
    unfold st2 at h1
    split at h1
    · cases h1
    · rename_i w hw
      split at h1
      · cases h1
        exact ⟨rfl, gt_some hw, fun j hj => absurd hj (by omega)⟩
      · rename_i j0
        split at h1
        · cases h1
        · rename_i hn
          cases h1
          exact ⟨rfl, gt_some hw, fun j hj x hx => by
            have : j = j0 := by omega
            subst this
            exact hn x hx⟩
  obtain ⟨rfl, hi, hlong⟩ := key
  refine ⟨⟨hl.1, hl.2.1, fun q hq => ?_⟩, rfl, hi⟩
  obtain ⟨k, w, g1, g2, rfl⟩ := mem_prl.mp hq
  rw [Nat.zero_add]
  by_cases e0 : k = i + 1
  · subst e0
    rw [gt_stt_eq g1] at g2
    cases g2
  rw [gt_stt_ne un e0] at g1
  by_cases e : k = i
  · subst e
    rw [gt_stt_eq g1]
    exact hl.2.2 (k, trv φ v) List.mem_cons_self
  · rw [gt_stt_ne v e] at g1
    refine hl.2.2 (k, trv φ w) (List.mem_cons_of_mem _ (List.mem_filter.mpr ⟨mem_prl.mpr ⟨k, w, g1, g2, by rw [Nat.zero_add]⟩, ?_⟩))
    simp only [Bool.and_eq_true, Bool.not_eq_true', beq_eq_false_iff_ne, ne_eq, Bool.and_eq_false_iff]
    refine ⟨e, e0, ?_⟩
    by_cases e2 : k + 1 = i
    · right
      intro hc
      obtain ⟨x, rfl⟩ := trv_cat2 hc
      exact hlong k e2 x g1
    · left
      exact e2
def hrg (t : Nat) : Bool := Nat.blt t 12 || (Nat.blt 20 t && Nat.blt t 25) || (Nat.ble 30 t && Nat.blt t 40)
def flds (h : Hp) (φ : Nat → Nat → Nat) (t a : Nat) : List Value := (List.range (nfl t)).map (fun k => trv φ (gf h t a k))
def cellOf (h : Hp) (φ : Nat → Nat → Nat) (cA : ClassId) (t a : Nat) : va_E := if t < 12 then .inr (t, flds h φ t a) else if t < 25 then .inl (cA, jLen h t a, .inl (jI h t a)) else .inl (cA, jLen h t a, .inr (.inr (.inr (.inr (fun k => (jR h t a k).map (φ (t - 30)))))))
def atf (t : Nat) : FieldType := match t with
  | 21 => .int
  | 22 => .byte
  | 23 => .char
  | 24 => .boolean
  | t => .object (cnm (t - 30))
def vok (h : Hp) : AV → Prop
  | .inr (.inr (t, some a)) => a < jN h t
  | _ => True
def Rel (h : Hp) (ws : va_W) (tys : List (ClassId × FieldType)) (φ : Nat → Nat → Nat) : Prop :=
  (∀ t a, hrg t = true → a < jN h t → ∃ (i : Nat) (cA : ClassId), ws[i]? = some (φ t a, cellOf h φ cA t a) ∧ (12 ≤ t → ∃ j : Nat, tys[j]? = some (cA, atf t))) ∧
  (∀ t a t' a', hrg t = true → hrg t' = true → a < jN h t → a' < jN h t' → φ t a = φ t' a' → t = t' ∧ a = a') ∧
  (∀ t a k, t < 12 → k < nfl t → a < jN h t → vok h (gf h t a k)) ∧
  (∀ t a k, 30 ≤ t → t < 40 → a < jN h t → vok h (vR (t - 30) (jR h t a k))) ∧
  jN h 40 = 34 ∧ jN h 41 = 34 ∧ jN h 42 = 3
theorem vok_le {h h' : Hp} (hl : ∀ t, jN h t ≤ jN h' t) {v : AV} (hv : vok h v) : vok h' v := by
  rcases v with x | x | ⟨t, o⟩
  · trivial
  · trivial
  · cases o with
    | none => trivial
    | some a => exact Nat.lt_of_lt_of_le hv (hl t)
theorem trv_ext {h : Hp} {φ φ' : Nat → Nat → Nat} (he : ∀ t a, a < jN h t → φ' t a = φ t a) {v : AV} (hv : vok h v) : trv φ' v = trv φ v := by
  rcases v with x | x | ⟨t, o⟩
  · rfl
  · rfl
  · cases o with
    | none => rfl
    | some a => show Value.ref (φ' t a) = Value.ref (φ t a); rw [he t a hv]
/-- one cell is written -/
theorem Rel.set {h h' : Hp} {ws : va_W} {tys : List (ClassId × FieldType)} {φ : Nat → Nat → Nat} (hR : Rel h ws tys φ) {t a i : Nat} {cA : ClassId} (ht : hrg t = true) (ha : a < jN h t) (hi : ws[i]? = some (φ t a, cellOf h φ cA t a)) (hj : 12 ≤ t → ∃ j : Nat, tys[j]? = some (cA, atf t)) (hN : jN h' = jN h) (ho : ∀ t' a' c, ¬ (t' = t ∧ a' = a) → cellOf h' φ c t' a' = cellOf h φ c t' a') (h3 : ∀ t a k, t < 12 → k < nfl t → a < jN h t → vok h (gf h' t a k)) (h4 : ∀ t a k, 30 ≤ t → t < 40 → a < jN h t → vok h (vR (t - 30) (jR h' t a k))) {e : va_E} (hE : e = cellOf h' φ cA t a) : Rel h' (ws.set i (φ t a, e)) tys φ := by
  subst hE
  have hv : ∀ v, vok h v → vok h' v := fun v hv => vok_le (fun t => by rw [hN]; exact Nat.le_refl _) hv
  refine ⟨fun t' a' ht' ha' => ?_, ?_, fun t a k x y z => hv _ (h3 t a k x y (by rw [← hN]; exact z)), fun t a k x y z => hv _ (h4 t a k x y (by rw [← hN]; exact z)), ?_⟩
  · rw [hN] at ha'
    by_cases e : t' = t ∧ a' = a
    · obtain ⟨rfl, rfl⟩ := e
      have hlt : i < ws.length := (List.getElem?_eq_some_iff.mp hi).1
      exact ⟨i, cA, by simp [List.getElem?_set, hlt], hj⟩
    · obtain ⟨i', c', h1, h2⟩ := hR.1 t' a' ht' ha'
      refine ⟨i', c', ?_, h2⟩
      have hne : i ≠ i' := by
        rintro rfl
        rw [hi] at h1
        have := (Prod.mk.inj (Option.some.inj h1)).1
        exact e ((hR.2.1 t a t' a' ht ht' ha ha' this).imp Eq.symm Eq.symm)
      rw [List.getElem?_set_ne hne, h1, ho t' a' c' e]
  · rw [hN]; exact hR.2.1
  · rw [hN]; exact hR.2.2.2.2
/-- one cell is made -/
theorem Rel.new {h h' : Hp} {ws : va_W} {tys : List (ClassId × FieldType)} {φ : Nat → Nat → Nat} (hR : Rel h ws tys φ) {t q n sl : Nat} {cA : ClassId} {ex : List (ClassId × FieldType)} (ht : hrg t = true) (hq : ∀ (i : Nat) (p : Nat × va_E), ws[i]? = some p → p.1 ≠ q) (hh : h' = mk h t n sl) (hj : 12 ≤ t → ∃ j : Nat, (tys ++ ex)[j]? = some (cA, atf t)) {e : va_E} (φ' : Nat → Nat → Nat) (hφ : φ' = fun t' a' => if t' = t ∧ a' = jN h t then q else φ t' a') (hE : e = cellOf h' φ' cA t (jN h t)) : Rel h' (ws ++ [(q, e)]) (tys ++ ex) φ' ∧ (∀ t a, a < jN h t → φ' t a = φ t a) := by
  subst hE
  have hold : ∀ t' a', a' < jN h t' → φ' t' a' = φ t' a' := by
    intro t' a' ha'
    rw [hφ]
    show (if t' = t ∧ a' = jN h t then q else φ t' a') = φ t' a'
    rw [if_neg]
    rintro ⟨rfl, rfl⟩
    exact Nat.lt_irrefl _ ha'
  have hnew : φ' t (jN h t) = q := by
    rw [hφ]
    show (if t = t ∧ jN h t = jN h t then q else φ t (jN h t)) = q
    rw [if_pos ⟨rfl, rfl⟩]
  have hN : ∀ t', jN h' t' = if t' = t then jN h t + 1 else jN h t' := fun t' => by rw [hh]; rfl
  have hcase : ∀ t' a', a' < jN h' t' → a' < jN h t' ∨ (t' = t ∧ a' = jN h t) := by
    intro t' a' ha'
    rw [hN] at ha'
    by_cases e : t' = t
    · rw [if_pos e] at ha'
      subst e
      rcases Nat.lt_or_ge a' (jN h t') with h1 | h1
      · exact Or.inl h1
      · exact Or.inr ⟨rfl, by omega⟩
    · rw [if_neg e] at ha'
      exact Or.inl ha'
  have hle : ∀ t', jN h t' ≤ jN h' t' := fun t' => by
    rw [hN]
    by_cases e : t' = t
    · rw [if_pos e, e]; exact Nat.le_succ _
    · rw [if_neg e]; exact Nat.le_refl _
  have hne : ∀ t' a', a' < jN h t' → ¬ (t' = t ∧ a' = jN h t) := by
    rintro t' a' ha' ⟨rfl, rfl⟩
    exact Nat.lt_irrefl _ ha'
  have eI : ∀ t' a' k, a' < jN h t' → jI h' t' a' k = jI h t' a' k := fun t' a' k ha' => by rw [hh]; exact if_neg (hne t' a' ha')
  have eL : ∀ t' a' k, a' < jN h t' → jL h' t' a' k = jL h t' a' k := fun t' a' k ha' => by rw [hh]; exact if_neg (hne t' a' ha')
  have eR : ∀ t' a' k, a' < jN h t' → jR h' t' a' k = jR h t' a' k := fun t' a' k ha' => by rw [hh]; exact if_neg (hne t' a' ha')
  have eZ : ∀ t' a', a' < jN h t' → jLen h' t' a' = jLen h t' a' := fun t' a' ha' => by rw [hh]; exact if_neg (hne t' a' ha')
  have nR : ∀ k, jR h' t (jN h t) k = none := fun k => by rw [hh]; exact if_pos ⟨rfl, rfl⟩
  have eG : ∀ t' a' k, a' < jN h t' → gf h' t' a' k = gf h t' a' k := fun t' a' k ha' => by
    unfold gf
    rw [eI t' a' k ha', eL t' a' k ha', eR t' a' k ha']
  refine ⟨⟨fun t' a' ht' ha' => ?_, fun t1 a1 t2 a2 g1 g2 g3 g4 e => ?_, fun t' a' k x y z => ?_, fun t' a' k x y z => ?_, ?_⟩, hold⟩
  · rcases hcase t' a' ha' with g | ⟨rfl, rfl⟩
    · obtain ⟨i, c', h1, h2⟩ := hR.1 t' a' ht' g
      refine ⟨i, c', ?_, fun g5 => ?_⟩
      · have hlt : i < ws.length := (List.getElem?_eq_some_iff.mp h1).1
        rw [List.getElem?_append_left hlt, h1, hold t' a' g]
        congr 2
        unfold cellOf
        by_cases b1 : t' < 12
        · rw [if_pos b1, if_pos b1]
          congr 2
          unfold flds
          refine List.map_congr_left fun k hk => ?_
          rw [eG t' a' k g]
          exact (trv_ext hold (hR.2.2.1 t' a' k b1 (List.mem_range.mp hk) g)).symm
        · rw [if_neg b1, if_neg b1]
          by_cases b2 : t' < 25
          · rw [if_pos b2, if_pos b2, eZ t' a' g]
            congr 4
            funext k
            exact (eI t' a' k g).symm
          · rw [if_neg b2, if_neg b2, eZ t' a' g]
            congr 7
            funext k
            rw [eR t' a' k g]
            have hv : 30 ≤ t' ∧ t' < 40 := by
              have := ht'
              unfold hrg at this
              simp only [Bool.or_eq_true, Bool.and_eq_true, Nat.blt_eq, Nat.ble_eq] at this
              omega
            have h5 := hR.2.2.2.1 t' a' k hv.1 hv.2 g
            cases hr : jR h t' a' k with
            | none => rfl
            | some b =>
              rw [hr] at h5
              show some (φ (t' - 30) b) = some (φ' (t' - 30) b)
              rw [hold _ _ h5]
      · obtain ⟨j, h6⟩ := h2 g5
        have hlt : j < tys.length := (List.getElem?_eq_some_iff.mp h6).1
        exact ⟨j, by rw [List.getElem?_append_left hlt, h6]⟩
    · refine ⟨ws.length, cA, ?_, hj⟩
      rw [List.getElem?_append_right (Nat.le_refl _), Nat.sub_self, hnew]
      rfl
  · have old : ∀ t' a', hrg t' = true → a' < jN h t' → φ t' a' ≠ q := by
      intro t' a' x y
      obtain ⟨i, c', h1, -⟩ := hR.1 t' a' x y
      exact hq i _ h1
    rcases hcase t1 a1 g3 with k1 | ⟨k1, k2⟩ <;> rcases hcase t2 a2 g4 with k3 | ⟨k3, k4⟩
    · rw [hold t1 a1 k1, hold t2 a2 k3] at e
      exact hR.2.1 t1 a1 t2 a2 g1 g2 k1 k3 e
    · rw [hold t1 a1 k1, k3, k4, hnew] at e
      exact absurd e (old t1 a1 g1 k1)
    · rw [hold t2 a2 k3, k1, k2, hnew] at e
      exact absurd e.symm (old t2 a2 g2 k3)
    · exact ⟨k1.trans k3.symm, k2.trans k4.symm⟩
  · rcases hcase t' a' z with g | ⟨rfl, rfl⟩
    · rw [eG t' a' k g]
      exact vok_le hle (hR.2.2.1 t' a' k x y g)
    · unfold gf
      split
      · trivial
      · trivial
      · trivial
      · trivial
      · trivial
      · rw [nR]; trivial
  · rcases hcase t' a' z with g | ⟨rfl, rfl⟩
    · rw [eR t' a' k g]
      exact vok_le hle (hR.2.2.2.1 t' a' k x y g)
    · rw [nR]; trivial
  · have : t ≠ 40 ∧ t ≠ 41 ∧ t ≠ 42 := by
      have := ht
      unfold hrg at this
      simp only [Bool.or_eq_true, Bool.and_eq_true, Nat.blt_eq, Nat.ble_eq] at this
      omega
    rw [hN, hN, hN, if_neg (Ne.symm this.1), if_neg (Ne.symm this.2.1), if_neg (Ne.symm this.2.2)]
    exact hR.2.2.2.2
