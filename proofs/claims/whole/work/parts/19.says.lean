/-! switches, puts, loads: what a step says -/
theorem i32_of {k : Int} (h1 : -2147483648 ≤ k) (h2 : k < 2147483648) {x : Int32} : x = Int32.ofInt k ↔ x.toInt = k := by
  have e : (Int32.ofInt k).toInt = k := Int32.toInt_ofInt_of_le (by omega) (by omega)
  constructor
  · intro z; rw [z]; exact e
  · intro z; exact Int32.toInt_inj.mp (by rw [z, e])
theorem swl_tab {x : Int32} {pc : Nat} {d : Int} {P : Nat → Prop} : ∀ (os : List Int) (lo : Int), -2147483648 ≤ lo → lo + os.length ≤ 2147483648 → swl x pc P d (prs lo os) → (∀ (j : Nat) (off : Int), os[j]? = some off → x.toInt = lo + j → ∃ t, jto pc off = some t ∧ P t) ∧ ((x.toInt < lo ∨ lo + os.length ≤ x.toInt) → ∃ t, jto pc d = some t ∧ P t)
  | [], lo, h1, h2, hh => by
    refine ⟨fun j off hj => by simp at hj, fun _ => ?_⟩
    have hh : (match jto pc d with
      | some t => P t
      | none => False) := hh
    cases hj : jto pc d with
    | none => rw [hj] at hh; exact hh.elim
    | some t => rw [hj] at hh; exact ⟨t, rfl, hh⟩
  | o :: os, lo, h1, h2, hh => by
    have hlen : ((o :: os).length : Int) = os.length + 1 := by simp
    rw [hlen] at h2
    have hx := i32_of (x := x) h1 (by omega)
    by_cases e : x = Int32.ofInt lo
    · have hh1 := hh.1 e
      refine ⟨fun j off hj hx2 => ?_, fun hx2 => ?_⟩
      · have hxl := hx.mp e
        have : j = 0 := by omega
        subst this
        cases hj
        cases hj2 : jto pc o with
        | none => rw [hj2] at hh1; exact hh1.elim
        | some t => rw [hj2] at hh1; exact ⟨t, rfl, hh1⟩
      · have hxl := hx.mp e
        rw [hlen] at hx2
        omega
    · have ih := swl_tab os (lo + 1) (by omega) (by omega) (hh.2 e)
      have hne : x.toInt ≠ lo := fun z => e (hx.mpr z)
      refine ⟨fun j off hj hx2 => ?_, fun hx2 => ih.2 ?_⟩
      · cases j with
        | zero => exact absurd hx2 (by intro z; exact hne (by omega))
        | succ j => exact ih.1 j off hj (by rw [hx2]; push_cast; omega)
      · rw [hlen] at hx2
        omega
theorem swl_look {x : Int32} {pc : Nat} {d : Int} {P : Nat → Prop} : ∀ (os : List (Int × Int)), os.all (fun p => decide (-2147483648 ≤ p.1) && decide (p.1 < 2147483648)) = true → swl x pc P d os → ∃ t, jto pc (Op.lookupswitch.offset os d x.toInt) = some t ∧ P t
  | [], _, hh => by
    have hh : (match jto pc d with
      | some t => P t
      | none => False) := hh
    have e1 : Op.lookupswitch.offset [] d x.toInt = d := rfl
    rw [e1]
    cases hj : jto pc d with
    | none => rw [hj] at hh; exact hh.elim
    | some t => rw [hj] at hh; exact ⟨t, rfl, hh⟩
  | (k, o) :: os, ha, hh => by
    simp only [List.all_cons, Bool.and_eq_true, decide_eq_true_eq] at ha
    have hx := i32_of (x := x) ha.1.1 ha.1.2
    by_cases e : x = Int32.ofInt k
    · have hh1 := hh.1 e
      have e1 : Op.lookupswitch.offset ((k, o) :: os) d x.toInt = o := by
        rw [hx.mp e]
        simp [Op.lookupswitch.offset]
      rw [e1]
      cases hj2 : jto pc o with
      | none => rw [hj2] at hh1; exact hh1.elim
      | some t => rw [hj2] at hh1; exact ⟨t, rfl, hh1⟩
    · have ih := swl_look os (by simpa using ha.2) (hh.2 e)
      have e1 : Op.lookupswitch.offset ((k, o) :: os) d x.toInt = Op.lookupswitch.offset os d x.toInt := lv_osw (k := Int32.ofInt k) e (Int32.toInt_ofInt_of_le (by omega) (by omega))
      rw [e1]
      exact ih
theorem pf_cases {h : Hp} {t a k : Nat} {v : AV} {K : Hp → Prop} (hh : pf h t a k v K) : (∃ x, v = .inl x ∧ fk t k = 0 ∧ K (wI h t a k x)) ∨ (∃ x, v = .inl x ∧ fk t k = 2 ∧ (x = 0 ∨ x = 1) ∧ K (wI h t a k x)) ∨ (∃ x, v = .inr (.inl x) ∧ fk t k = 1 ∧ K (wL h t a k x)) ∨ (∃ n t' o, v = .inr (.inr (t', o)) ∧ fk t k = n + 5 ∧ (t' = n ∨ o = none) ∧ K (wR h t a k o)) := by
  unfold pf at hh
  split at hh
  · rename_i x e; exact Or.inl ⟨x, rfl, e, hh⟩
  · rename_i x e; exact Or.inr (Or.inr (Or.inl ⟨x, rfl, e, hh⟩))
  · rename_i x e; exact Or.inr (Or.inl ⟨x, rfl, e, hh.1, hh.2⟩)
  · rename_i n t' o e
    split at hh
    · rename_i hb
      exact Or.inr (Or.inr (Or.inr ⟨n, t', _, rfl, e, Or.inl (Nat.eq_of_beq_eq_true hb).symm, hh⟩))
    · exact Or.inr (Or.inr (Or.inr ⟨n, t', none, rfl, e, Or.inr rfl, hh⟩))
    · exact hh.elim
  · exact hh.elim
theorem lda_int {h : Hp} {t a : Nat} {i : Int32} {K : AV → Prop} (hh : lda h t a i K) : ∃ x, K (.inl x) ∧ ∀ K' : AV → Prop, K' (.inl x) → lda h t a i K' := by
  unfold lda at hh
  split at hh
  · exact ⟨_, hh.2, fun K' k => ⟨hh.1, k⟩⟩
  · exact ⟨_, hh.2, fun K' k => ⟨hh.1, k⟩⟩
  · exact ⟨_, hh.2, fun K' k => ⟨hh.1, k⟩⟩
  · exact ⟨_, hh.2, fun K' k => ⟨hh.1, k⟩⟩
  · exact ⟨_, hh.2, fun K' k => ⟨hh.1, k⟩⟩
  · exact ⟨_, hh.2, fun K' k => ⟨hh.1, k⟩⟩
  · exact hh.elim
theorem ald_cases {i : Instr} {h : Hp} {st : List AV} {K : List AV → Prop} (hh : ald i h st K) : ∃ j t a r, st = .inl j :: .inr (.inr (t, some a)) :: r ∧ okA i t = true ∧ lda h t a j (fun v => K (v :: r)) := by
  unfold ald at hh
  split at hh
  · obtain ⟨hb, hd⟩ := if_ex hh
    obtain ⟨a, rfl, hl⟩ := dr_ex hd
    exact ⟨_, _, a, _, rfl, hb, hl⟩
  · exact hh.elim
theorem ast_cases {i : Instr} {h : Hp} {st : List AV} {K : List AV → Hp → Prop} (hh : ast i h st K) : ∃ x j t a r, st = .inl x :: .inl j :: .inr (.inr (t, some a)) :: r ∧ okA i t = true ∧ sta h t a j x (fun h' => K r h') := by
  unfold ast at hh
  split at hh
  · obtain ⟨hb, hd⟩ := if_ex hh
    obtain ⟨a, rfl, hl⟩ := dr_ex hd
    exact ⟨_, _, _, a, _, rfl, hb, hl⟩
  · exact hh.elim
theorem gfa_ne {h : Hp} {t a k : Nat} (ht : t ≠ 40) : gfa h t a k = gf h t a k := by
  unfold gfa
  cases hb : Nat.beq t 40 with
  | true => exact absurd (Nat.eq_of_beq_eq_true hb) ht
  | false => rfl
theorem vok_wI {h : Hp} {t a k : Nat} {x : Int32} {st : List AV} (hv : ∀ v ∈ st, vok h v) : ∀ v ∈ st, vok (wI h t a k x) v := fun v z => vok_le (fun _ => Nat.le_refl _) (hv v z)
theorem vok_wL {h : Hp} {t a k : Nat} {x : Int64} {st : List AV} (hv : ∀ v ∈ st, vok h v) : ∀ v ∈ st, vok (wL h t a k x) v := fun v z => vok_le (fun _ => Nat.le_refl _) (hv v z)
theorem vok_wR {h : Hp} {t a k : Nat} {x : Option Nat} {st : List AV} (hv : ∀ v ∈ st, vok h v) : ∀ v ∈ st, vok (wR h t a k x) v := fun v z => vok_le (fun _ => Nat.le_refl _) (hv v z)
theorem vok_hle {h h' : Hp} (hl : hle h h') {st : List AV} (hv : ∀ v ∈ st, vok h v) : ∀ v ∈ st, vok h' v := fun v z => vok_le hl.1 (hv v z)
theorem mk_new (h : Hp) (t n sl : Nat) : jN h t < jN (mk h t n sl) t := by
  show jN h t < if t = t then jN h t + 1 else jN h t
  rw [if_pos rfl]
  exact Nat.lt_succ_self _
