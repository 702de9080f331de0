/-! the reference's stepFrom, enters -/
theorem fmI_s (j k : Nat) : fmI (j + 1) k = fmK (fmI j k) := by
  induction j generalizing k with
  | zero => rfl
  | succ j ih => exact ih (fmK k)
theorem fmI_99 : ∀ j, fmI j 99 = 99
  | 0 => rfl
  | j + 1 => fmI_99 j
theorem fmI_add (i j k : Nat) : fmI (i + j) k = fmI i (fmI j k) := by
  induction j generalizing k with
  | zero => rfl
  | succ j ih => exact ih (fmK k)
theorem fmI_4 {k : Nat} (h : k < 31) : fmI 4 k = 99 := by
  have : (List.range 31).all (fun k => decide (fmI 4 k = 99)) = true := by decide +kernel
  exact of_decide_eq_true (all_r this h)
theorem fnd_no {r : Int32} : ∀ {D : List Bod} {i : Nat}, (∀ b ∈ D, BoV b) → fnd D r (-1) i = none
  | [], i, _ => rfl
  | b :: D, i, h => by
    unfold fnd
    have hb := (h b List.mem_cons_self).2.1
    rw [if_neg (fun z => nI_m1 (by omega) z.2)]
    exact fnd_no (fun c hc => h c (List.mem_cons_of_mem _ hc))
theorem sf_99 {Do Dc : List Bod} {r k s : Nat} (Vo : ∀ b ∈ Do, BoV b) (Vc : ∀ b ∈ Dc, BoV b) (h : fmI (s / 2) k = 99) : sfS Do Dc r k s = none := by
  unfold sfS
  rw [h]
  by_cases z : s % 2 = 0
  · rw [if_pos z, show tnI 99 = -1 from rfl, fnd_no Vo]; rfl
  · rw [if_neg z, show tnI 99 = -1 from rfl, fnd_no Vc]; rfl
def tkH (h : Hp) (k b i : Int32) : Hp := wI (wI (wI h 11 0 29 k) 11 0 31 b) 11 0 30 i
/-- what stepFrom finds -/
def SfK (Do Dc : List Bod) (r kind fr : Nat) (h : Hp) (K : Int32 → Hp → Prop) : Prop := ((∀ s, fr ≤ s → s < 8 → sfS Do Dc r kind s = none) → K (-1) h) ∧ (∀ s i b, fr ≤ s → s < 8 → (∀ t, fr ≤ t → t < s → sfS Do Dc r kind t = none) → sfS Do Dc r kind s = some b → (if s % 2 = 0 then Do else Dc)[i]? = some b → K (nI s) (tkH h (tnI (fmI (s / 2) kind)) (if s % 2 = 0 then 1 else 0) (nI i)))
theorem f184 {d r o kind fr m1 m2 : Nat} {l2 : Int32} {Do Dc : List Bod} {h : Hp} {K : Int32 → Hp → Prop} {P : Nat → List AV → List AV → Hp → Prop} (hP : Cl (Call (d + 1)) 184 (fun v h' => ∃ x, v = some (vI x) ∧ K x h') P) (S : RSh h) (ho : o < 4) (Qo : RpG h o Do m1) (Qc : RpG h 4 Dc m2) (Vo : ∀ b ∈ Do, BoV b) (Vc : ∀ b ∈ Dc, BoV b) (hk : kind < 31) (hfr : fr ≤ 8) (kk : SfK Do Dc r kind fr h K) : ∀ (jj j : Nat) (w7 w8 : AV), j + jj = 4 → (∀ s, fr ≤ s → s < 2 * j → sfS Do Dc r kind s = none) → P 6 [vR 11 (some 0), vI (nI fr), vI l2, vI (nI r), vI (nI o), vI (tnI (fmI j kind)), vI (nI (2 * j)), w7, w8] [] h := by
  have vm : ∀ j, fmI j kind < 31 ∨ fmI j kind = 99 := by
    intro j
    induction j with
    | zero => exact Or.inl hk
    | succ j ih => rw [fmI_s]; exact fmK_v _ ih
  have out : ∀ (j : Nat) (w7 w8 : AV), fmI j kind = 99 → (∀ s, fr ≤ s → s < 2 * j → sfS Do Dc r kind s = none) → P 6 [vR 11 (some 0), vI (nI fr), vI l2, vI (nI r), vI (nI o), vI (tnI (fmI j kind)), vI (nI (2 * j)), w7, w8] [] h := by
    intro j w7 w8 e9 hno
    refine v184_6 hP 0 (nI fr) l2 (nI r) (nI o) _ _ w7 w8 h ⟨fun _ => ⟨_, rfl, kk.1 (fun s h1 h2 => ?_)⟩, fun c => absurd (by rw [e9]; rfl) c⟩
    rcases Nat.lt_or_ge s (2 * j) with z | z
    · exact hno s h1 z
    · refine sf_99 Vo Vc ?_
      rw [show s / 2 = (s / 2 - j) + j by omega, fmI_add, e9, fmI_99]
  intro jj
  induction jj with
  | zero =>
    intro j w7 w8 hj hno
    have e : j = 4 := by omega
    subst e
    exact out 4 w7 w8 (fmI_4 hk) hno
  | succ jj ih =>
    intro j w7 w8 hj hno
    by_cases e9 : fmI j kind = 99
    · exact out j w7 w8 e9 hno
    · have hkj : fmI j kind < 31 := by
        rcases vm j with z | z
        · exact z
        · exact absurd z e9
      have ek : tnI (fmI j kind) = nI (fmI j kind) := if_neg e9
      have x2j : ∀ i, nI (2 * j) + nI i = nI (2 * j + i) := fun i => nI_add _ _
      have found : ∀ (side i : Nat) (b : Bod), side < 2 → fr ≤ 2 * j + side → (∀ s, fr ≤ s → s < 2 * j + side → sfS Do Dc r kind s = none) → fnd (if side = 0 then Do else Dc) (nI r) (nI (fmI j kind)) 0 = some i → (if side = 0 then Do else Dc)[i]? = some b → K (nI (2 * j + side)) (tkH h (nI (fmI j kind)) (if side = 0 then 1 else 0) (nI i)) := by
        intro side i b hs h1 h2 h3 h4
        have em : (2 * j + side) % 2 = side := by omega
        have ed : (2 * j + side) / 2 = j := by omega
        have := kk.2 (2 * j + side) i b h1 (by omega) h2 (by
          unfold sfS
          rw [em, ed, ek, h3]
          exact h4) (by rw [em]; exact h4)
        rw [em, ed, ek] at this
        exact this
      have nofound : ∀ side, side < 2 → fnd (if side = 0 then Do else Dc) (nI r) (nI (fmI j kind)) 0 = none → sfS Do Dc r kind (2 * j + side) = none := by
        intro side hs h3
        unfold sfS
        rw [show (2 * j + side) % 2 = side by omega, show (2 * j + side) / 2 = j by omega, ek, h3]
        rfl
      rw [ek]
      refine v184_6 hP 0 (nI fr) l2 (nI r) (nI o) _ _ w7 w8 h ⟨fun c => absurd c (nI_m1 (by omega)), fun _ => ?_⟩
      -- behind both sides
      have p2 : ∀ w8 : AV, (∀ s, fr ≤ s → s < 2 * j + 2 → sfS Do Dc r kind s = none) → P 15 [vR 11 (some 0), vI (nI fr), vI l2, vI (nI r), vI (nI o), vI (nI (fmI j kind)), vI (nI (2 * j)), vI 2, w8] [] h := by
        intro w8 hno2
        have fa := all_r fam_all hkj
        simp only [Bool.and_eq_true, decide_eq_true_eq] at fa
        refine v184_15 hP 0 (nI fr) l2 (nI r) (nI o) _ _ 2 w8 h ⟨fun _ => s150 ?_, fun c => absurd (by decide) c⟩
        rw [fa.2, ← fmI_s, show nI (2 * j) + 2 = nI (2 * (j + 1)) from x2j 2]
        exact ih (j + 1) _ w8 (by omega) hno2
      have p1 : ∀ w8 : AV, (∀ s, fr ≤ s → s < 2 * j + 1 → sfS Do Dc r kind s = none) → P 15 [vR 11 (some 0), vI (nI fr), vI l2, vI (nI r), vI (nI o), vI (nI (fmI j kind)), vI (nI (2 * j)), vI 1, w8] [] h := by
        intro w8 hno1
        have e1 : nI (2 * j) + 1 = nI (2 * j + 1) := nI_1 _
        refine v184_15 hP 0 (nI fr) l2 (nI r) (nI o) _ _ 1 w8 h ⟨fun c => absurd c (by decide), fun _ => ⟨fun c => ⟨fun _ => s177 (o := 4) S (by decide) Qc ?_, fun z => absurd (by decide) z⟩, fun c => p2 w8 (fun s h1 h2 => ?_)⟩⟩
        · rw [e1] at c
          have c : fr ≤ 2 * j + 1 := (nI_leI (by omega) (by omega)).mp c
          cases hf : fnd Dc (nI r) (nI (fmI j kind)) 0 with
          | none =>
            refine ⟨fun z => absurd rfl z, fun _ => p2 _ (fun s h1 h2 => ?_)⟩
            rcases Nat.lt_or_ge s (2 * j + 1) with z | z
            · exact hno1 s h1 z
            · rw [show s = 2 * j + 1 by omega]; exact nofound 1 (by decide) hf
          | some i =>
            obtain ⟨t, b, y1, y2, y3, y4⟩ := fnd_at hf
            have ei : i = t := by omega
            subst ei
            have hl := fnd_lt hf
            have h12 := Qc.1
            rw [e1]
            exact ⟨fun _ => ⟨fun _ => ⟨_, rfl, found 1 i b (by decide) c hno1 hf y2⟩, fun z => absurd (by decide) z⟩, fun z => absurd (nI_m1 (by omega)) z⟩
        · rw [e1] at c
          have c : ¬ fr ≤ 2 * j + 1 := fun z => c ((nI_leI (by omega) (by omega)).mpr z)
          omega
      have e0 : nI (2 * j) + 0 = nI (2 * j + 0) := Int32.add_zero _
      refine v184_15 hP 0 (nI fr) l2 (nI r) (nI o) _ _ 0 w8 h ⟨fun c => absurd c (by decide), fun _ => ⟨fun c => ⟨fun z => absurd rfl z, fun _ => s177 S (by omega) Qo ?_⟩, fun c => p1 w8 (fun s h1 h2 => ?_)⟩⟩
      · rw [e0] at c
        have c : fr ≤ 2 * j + 0 := (nI_leI (by omega) (by omega)).mp c
        cases hf : fnd Do (nI r) (nI (fmI j kind)) 0 with
        | none =>
          refine ⟨fun z => absurd rfl z, fun _ => p1 _ (fun s h1 h2 => ?_)⟩
          rcases Nat.lt_or_ge s (2 * j) with z | z
          · exact hno s h1 z
          · rw [show s = 2 * j + 0 by omega]; exact nofound 0 (by decide) hf
        | some i =>
          obtain ⟨t, b, y1, y2, y3, y4⟩ := fnd_at hf
          have ei : i = t := by omega
          subst ei
          have hl := fnd_lt hf
          have h12 := Qo.1
          rw [e0]
          exact ⟨fun _ => ⟨fun z => absurd rfl z, fun _ => ⟨_, rfl, found 0 i b (by decide) c hno hf y2⟩⟩, fun z => absurd (nI_m1 (by omega)) z⟩
      · rw [e0] at c
        have c : ¬ fr ≤ 2 * j + 0 := fun z => c ((nI_leI (by omega) (by omega)).mpr z)
        omega
/-- stepFrom(from, kind, rule, office) -/
theorem s184 {d r o kind fr m1 m2 : Nat} {Do Dc : List Bod} {h : Hp} {K : Int32 → Hp → Prop} (S : RSh h) (ho : o < 4) (Qo : RpG h o Do m1) (Qc : RpG h 4 Dc m2) (Vo : ∀ b ∈ Do, BoV b) (Vc : ∀ b ∈ Dc, BoV b) (hk : kind < 31) (hfr : fr ≤ 8) (kk : SfK Do Dc r kind fr h K) : CI (d + 2) 184 [vR 11 (some 0), vI (nI fr), vI (nI kind), vI (nI r), vI (nI o)] h K := by
  intro P hP
  have e : tnI kind = nI kind := if_neg (by omega)
  have := f184 (l2 := nI kind) hP S ho Qo Qc Vo Vc hk hfr kk 4 0 un un rfl (fun s h1 h2 => by omega)
  have this : P 6 [vR 11 (some 0), vI (nI fr), vI (nI kind), vI (nI r), vI (nI o), vI (tnI kind), vI (nI 0), un, un] [] h := this
  rw [e] at this
  exact v184 hP 0 (nI fr) (nI kind) (nI r) (nI o) h this
