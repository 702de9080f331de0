/-! the reference's enters; its frames -/
def enH (h : Hp) (f : Nat) (at' en o st : Int32) : Hp := wI (wI (wI (wI (wI (wI h 21 14 f at') 21 15 f en) 21 16 f o) 21 17 f st) 11 0 39 (nI (f + 1))) 11 0 32 (jI h 11 0 32 + 1)
theorem s187 {d o off i f : Nat} {tb at' en stp : Int32} {h : Hp} {K : Hp → Prop} (S : RSh h) (hoff : (tb = 0 ∧ o = 4) ∨ (¬ tb = 0 ∧ o = off)) (hof4 : off < 4) (e31 : jI h 11 0 31 = tb) (e30 : jI h 11 0 30 = nI i) (hi : i < 12) (e39 : jI h 11 0 39 = nI f) (hf : f < 12) (ea : jI h 21 8 (12 * o + i) = at') (ee : jI h 21 9 (12 * o + i) = en) (k : K (enH h f at' en (nI o) stp)) : CV (d + 1) 187 [vR 11 (some 0), vI stp, vI (nI off)] h K := by
  intro P hP
  have if' : ix (nI f) = f := nI_clamp (by omega)
  have vf : ∀ {g : Hp} {a : Nat}, jLen g 21 a = 12 → vp_in (nI f) (jLen g 21 a) := fun e => by rw [e]; exact vp_in_nI hf (by decide)
  have t1 : ∀ (g : Hp) (a k v) (j : Nat), jI (wI g 21 a k v) 11 0 j = jI g 11 0 j := fun g a k v j => jI_t (by decide)
  have t2 : ∀ (g : Hp) (v), jI (wI g 11 0 39 v) 11 0 32 = jI g 11 0 32 := fun g v => jI_k (by decide)
  have o5 : o < 5 := by omega
  have io : ix (nI (12 * o + i)) = 12 * o + i := nI_clamp (by omega)
  have vo : ∀ {g : Hp} {a : Nat}, jLen g 21 a = 72 → vp_in (nI (12 * o + i)) (jLen g 21 a) := fun e => by rw [e]; exact vp_in_nI (by omega) (by decide)
  refine v187 hP 0 stp (nI off) h ?_
  rw [e31, e30, e39]
  rcases hoff with ⟨z, zo⟩ | ⟨z, zo⟩
  · subst zo
    have e48 : (48 : Int32) + nI i = nI (12 * 4 + i) := by
      show nI 48 + nI i = _
      rw [nI_add]
    rw [e48]
    refine ⟨fun _ => dr_of S.r22 ⟨vo S.n22, dr_of S.r35 ⟨vf S.n35, dr_of S.r23 ?_⟩⟩, fun y => absurd z y⟩
    rw [t1, e30, e48, io, if', ea]
    refine ⟨vo S.n23, dr_of S.r36 ?_⟩
    rw [t1, e39, if', jI_a (by decide), ee]
    refine ⟨vf S.n36, fun h5 e5 => ?_⟩
    have S5 : RSh h5 := by rw [e5]; exact S.of rfl rfl
    have q39 : jI h5 11 0 39 = nI f := by rw [e5, t1, t1]; exact e39
    rw [q39, if']
    refine dr_of S5.r37 ⟨vf S5.n37, dr_of S5.r38 ?_⟩
    simp only [t1, q39, if', nI_1]
    refine ⟨vf S5.n38, fun h8 e8 => ⟨trivial, ?_⟩⟩
    have q32 : jI h8 11 0 32 = jI h 11 0 32 := by rw [e8, t2, t1, t1, e5, t1, t1]
    rw [q32, e8, e5]
    exact k
  · subst zo
    rw [x12]
    refine ⟨fun y => absurd y z, fun _ => dr_of S.r22 ⟨vo S.n22, dr_of S.r35 ⟨vf S.n35, dr_of S.r23 ?_⟩⟩⟩
    rw [t1, e30, x12, io, if', ea]
    refine ⟨vo S.n23, dr_of S.r36 ?_⟩
    rw [t1, e39, if', jI_a (by decide), ee]
    refine ⟨vf S.n36, fun h5 e5 => ?_⟩
    have S5 : RSh h5 := by rw [e5]; exact S.of rfl rfl
    have q39 : jI h5 11 0 39 = nI f := by rw [e5, t1, t1]; exact e39
    rw [q39, if']
    refine dr_of S5.r37 ⟨vf S5.n37, dr_of S5.r38 ?_⟩
    simp only [t1, q39, if', nI_1]
    refine ⟨vf S5.n38, fun h8 e8 => ⟨trivial, ?_⟩⟩
    have q32 : jI h8 11 0 32 = jI h 11 0 32 := by rw [e8, t2, t1, t1, e5, t1, t1]
    rw [q32, e8, e5]
    exact k
theorem exE_app {val : Nat → Int32} {nx : Int32} : ∀ {C : List Nat} {s1 : List Int32} {e : Nat} (sb : List Int32), dpF (some s1.length) C = some e → exE val nx C (s1 ++ sb) = exE val nx C s1 ++ sb ∧ (exE val nx C s1).length = e
  | [], s1, e, sb, h => ⟨rfl, Option.some.inj h⟩
  | x :: C, s1, e, sb, h => by
    have h : dpF (stD (some s1.length) x) C = some e := h
    show exE val nx C (stE val nx (s1 ++ sb) x) = exE val nx C (stE val nx s1 x) ++ sb ∧ (exE val nx C (stE val nx s1 x)).length = e
    unfold stD at h
    dsimp only at h
    by_cases c1 : x < 20000
    · rw [if_pos c1] at h
      by_cases c2 : s1.length < 32
      · rw [if_pos c2] at h
        have push : ∀ v, (∀ st, stE val nx st x = v :: st) → exE val nx C (stE val nx (s1 ++ sb) x) = exE val nx C (stE val nx s1 x) ++ sb ∧ (exE val nx C (stE val nx s1 x)).length = e := by
          intro v ev
          rw [ev, ev]
          exact exE_app (s1 := v :: s1) sb h
        by_cases c3 : x < 10000
        · exact push (nI x) (fun st => by unfold stE; rw [if_pos c3])
        · exact push (if x = 10008 then nx else val (x - 10000)) (fun st => by unfold stE; rw [if_neg c3, if_pos c1])
      · rw [if_neg c2, dpF_none] at h; cases h
    · rw [if_neg c1] at h
      by_cases c2 : 2 ≤ s1.length
      · rw [if_pos c2] at h
        obtain ⟨bb, aa, r, rfl⟩ : ∃ bb aa r, s1 = bb :: aa :: r := by
          cases s1 with
          | nil =>
            have c2 : 2 ≤ 0 := c2
            omega
          | cons v r =>
            cases r with
            | nil =>
              have c2 : 2 ≤ 1 := c2
              omega
            | cons w r => exact ⟨v, w, r, rfl⟩
        have ev : ∀ T, stE val nx (bb :: aa :: T) x = cmb (x - 20000) aa bb :: T := fun T => by
          unfold stE
          rw [if_neg (by omega), if_neg c1]
        rw [ev]
        show exE val nx C (stE val nx (bb :: aa :: (r ++ sb)) x) = _ ∧ _
        rw [ev]
        exact exE_app (s1 := cmb (x - 20000) aa bb :: r) sb h
      · rw [if_neg c2, dpF_none] at h; cases h
theorem evB_on {val : Nat → Int32} {nx : Int32} {C : List Nat} (st : List Int32) (h : dpt C = some 1) : exE val nx C st = evB val nx C :: st := by
  have a := exE_app (val := val) (nx := nx) (s1 := []) st h
  have e1 := a.1
  rw [List.nil_append] at e1
  rw [e1]
  unfold evB
  have hl := a.2
  generalize exE val nx C [] = q at hl ⊢
  cases q with
  | nil => cases hl
  | cons v r =>
    cases r with
    | nil => rfl
    | cons w r => have : r.length + 1 + 1 = 1 := hl; omega
/-- value and bodies begun, over the seats from s on -/
def nvA (sf : Nat → Option Bod) (val : Nat → Int32) (s : Nat) : Int32 × Int32 := nvM sf val (8 - s)
theorem nvA_eq {sf : Nat → Option Bod} {val : Nat → Int32} {s : Nat} (h : s < 8) : nvA sf val s = match sf s with
    | none => nvA sf val (s + 1)
    | some b => (evB val (nvA sf val (s + 1)).1 b.2.2, 1 + nI (b.2.2.count 10008) * (nvA sf val (s + 1)).2) := by
  unfold nvA
  rw [show 8 - s = (7 - s) + 1 by omega, show 8 - (s + 1) = 7 - s by omega]
  show (match sf (7 - (7 - s)) with
    | none => nvM sf val (7 - s)
    | some b => (evB val (nvM sf val (7 - s)).1 b.2.2, 1 + nI (b.2.2.count 10008) * (nvM sf val (7 - s)).2)) = _
  rw [show 7 - (7 - s) = s by omega]
theorem nvA_skip {sf : Nat → Option Bod} {val : Nat → Int32} : ∀ {m s : Nat}, s + m ≤ 8 → (∀ t, s ≤ t → t < s + m → sf t = none) → nvA sf val s = nvA sf val (s + m)
  | 0, s, _, _ => rfl
  | m + 1, s, h, hn => by
    rw [nvA_eq (by omega), hn s (Nat.le_refl _) (by omega)]
    dsimp only
    rw [nvA_skip (m := m) (s := s + 1) (by omega) (fun t h1 h2 => hn t (by omega) (by omega)), show s + 1 + m = s + (m + 1) by omega]
