/-! codes that were read: they keep to the room of a stack and leave one value -/
def stD (d : Option Nat) (x : Nat) : Option Nat := match d with
  | none => none
  | some d => if x < 20000 then (if d < 32 then some (d + 1) else none) else (if 2 ≤ d then some (d - 1) else none)
def dpt (C : List Nat) : Option Nat := C.foldl stD (some 0)
theorem dpt_app (C : List Nat) (x : Nat) : dpt (C ++ [x]) = stD (dpt C) x := by
  unfold dpt
  rw [List.foldl_append]
  rfl
def cdV (x : Nat) : Prop := x < 10000 ∨ (10000 ≤ x ∧ x < 10009) ∨ (20000 ≤ x ∧ x < 20006)
/-- how signs wait: a product's above a sum's, no more between two brackets -/
def okS : List Nat → Prop
  | [] => True
  | s :: S => (s = 9 ∨ (s < 2 ∧ ∀ y T, S = y :: T → y = 9) ∨ (2 ≤ s ∧ s < 6 ∧ ∀ y T, S = y :: T → y = 9 ∨ y < 2)) ∧ okS S
def ldS : List Nat → Nat
  | [] => 0
  | s :: _ => if s = 9 then 0 else if s < 2 then 1 else 2
theorem ld_c (s : Nat) (S : List Nat) : ldS (s :: S) = if s = 9 then 0 else if s < 2 then 1 else 2 := rfl
theorem okS_len : ∀ {S : List Nat}, okS S → S.length ≤ 3 * S.count 9 + ldS S
  | [], _ => Nat.le_refl _
  | s :: S, h => by
    have ih := okS_len h.2
    have l2 : ldS S ≤ 2 := by
      cases S with
      | nil => exact Nat.zero_le _
      | cons y T => rw [ld_c]; (repeat' split) <;> omega
    show S.length + 1 ≤ _
    rcases h.1 with z | ⟨z1, z2⟩ | ⟨z1, z2, z3⟩
    · subst z
      rw [List.count_cons_self]
      omega
    · rw [List.count_cons_of_ne (by omega)]
      have e : ldS S = 0 := by
        cases S with
        | nil => rfl
        | cons y T => rw [ld_c]; rw [if_pos (z2 y T rfl)]
      have e2 : ldS (s :: S) = 1 := by rw [ld_c]; rw [if_neg (by omega), if_pos z1]
      omega
    · rw [List.count_cons_of_ne (by omega)]
      have e : ldS S ≤ 1 := by
        cases S with
        | nil => exact Nat.zero_le _
        | cons y T =>
          rw [ld_c]
          rcases z3 y T rfl with w | w
          · rw [if_pos w]; omega
          · rw [if_neg (by omega), if_pos w]
            exact Nat.le_refl _
      have e2 : ldS (s :: S) = 2 := by rw [ld_c]; rw [if_neg (by omega), if_neg (by omega)]
      omega
def sg (S : List Nat) : Nat := S.length - S.count 9
theorem sg_9 (S : List Nat) : sg (9 :: S) = sg S := by
  unfold sg
  rw [List.count_cons_self]
  show S.length + 1 - (S.count 9 + 1) = _
  omega
theorem sg_s {s : Nat} (S : List Nat) (h : ¬ s = 9) : sg (s :: S) = sg S + 1 := by
  unfold sg
  rw [List.count_cons_of_ne h]
  have := List.count_le_length (a := 9) (l := S)
  show S.length + 1 - _ = _
  omega
theorem sg_le {S : List Nat} (h : okS S) (h9 : S.count 9 ≤ 9) : sg S ≤ 20 := by
  have := okS_len h
  have l2 : ldS S ≤ 2 := by
    cases S with
    | nil => exact Nat.zero_le _
    | cons y T => rw [ld_c]; (repeat' split) <;> omega
  unfold sg
  omega
theorem joi_top {lv : Nat} : ∀ {S out : List Nat} {s : Nat} {T : List Nat}, (joiS lv S out).1 = s :: T → s = 9 ∨ (lv = 2 ∧ s < 2)
  | [], out, s, T, e => by cases e
  | x :: S, out, s, T, e => by
    rw [joiS.eq_2] at e
    by_cases z : x = 9 ∨ (lv = 2 ∧ x < 2)
    · rw [if_pos z] at e
      have := List.head_eq_of_cons_eq e
      rw [← this]; exact z
    · rw [if_neg z] at e
      exact joi_top e
theorem joi_ok {lv : Nat} : ∀ {S : List Nat} (out : List Nat), okS S → okS (joiS lv S out).1
  | [], out, h => h
  | x :: S, out, h => by
    rw [joiS.eq_2]
    split
    · exact h
    · exact joi_ok _ h.2
theorem joi_d {lv : Nat} : ∀ {S out : List Nat}, Sv S → dpt out = some (sg S + 1) → (∀ x ∈ out, cdV x) → dpt (joiS lv S out).2 = some (sg (joiS lv S out).1 + 1) ∧ ∀ x ∈ (joiS lv S out).2, cdV x
  | [], out, hS, e, hv => ⟨e, hv⟩
  | s :: S, out, hS, e, hv => by
    rw [joiS.eq_2]
    by_cases z : s = 9 ∨ (lv = 2 ∧ s < 2)
    · rw [if_pos z]; exact ⟨e, hv⟩
    · rw [if_neg z]
      have hs := hS s List.mem_cons_self
      refine joi_d (fun x hx => hS x (List.mem_cons_of_mem _ hx)) ?_ (fun x hx => ?_)
      · rw [dpt_app, e, sg_s S (fun y => z (Or.inl y))]
        unfold stD
        dsimp only
        rw [if_neg (by omega), if_pos (by omega)]
        rfl
      · rcases List.mem_append.mp hx with w | w
        · exact hv x w
        · rw [List.mem_singleton.mp w]; exact Or.inr (Or.inr ⟨by omega, by omega⟩)
theorem yrd_wf {nm kd np : Nat → Nat} : ∀ {f : Nat} {b : Bool} {S : List Nat} {o : Nat} {out : List Nat} {p p' : Nat} {C : List Nat}, okS S → Sv S → S.count 9 = o → o ≤ 9 → dpt out = some (sg S + (if b = true then 0 else 1)) → (∀ x ∈ out, cdV x) → yrd nm kd np f b S o out p = (some C, p') → dpt C = some 1 ∧ ∀ x ∈ C, cdV x
  | 0, b, S, o, out, p, p', C, h1, h2, h3, h4, h5, h6, e => by cases congrArg Prod.fst e
  | f + 1, true, S, o, out, p, p', C, h1, h2, h3, h4, h5, h6, e => by
    have h5 : dpt out = some (sg S) := h5
    have hsg := sg_le h1 (by omega)
    rw [yrd_t] at e
    have push : ∀ x, x < 20000 → cdV x → dpt (out ++ [x]) = some (sg S + (if false = true then 0 else 1)) ∧ ∀ y ∈ out ++ [x], cdV y := by
      intro x hx hv
      refine ⟨?_, fun y hy => ?_⟩
      · rw [dpt_app, h5]
        unfold stD
        dsimp only
        rw [if_pos hx, if_pos (by omega)]
        rfl
      · rcases List.mem_append.mp hy with w | w
        · exact h6 y w
        · rw [List.mem_singleton.mp w]; exact hv
    by_cases c1 : kd p = 340
    · rw [if_pos c1] at e
      by_cases c2 : o = 9
      · rw [if_pos c2] at e; cases congrArg Prod.fst e
      · rw [if_neg c2] at e
        refine yrd_wf (S := 9 :: S) ⟨Or.inl rfl, h1⟩ (fun x hx => ?_) (by rw [List.count_cons_self, h3]) (by omega) ?_ h6 e
        · rcases List.mem_cons.mp hx with w | w
          · exact Or.inr w
          · exact h2 x w
        · rw [sg_9]; exact h5
    · rw [if_neg c1] at e
      by_cases c2 : nm p < 10000
      · rw [if_pos c2] at e
        have pp := push (nm p) (by omega) (Or.inl c2)
        exact yrd_wf h1 h2 h3 h4 pp.1 pp.2 e
      · rw [if_neg c2] at e
        by_cases c3 : 83 ≤ kd p ∧ kd p < 92
        · rw [if_pos c3] at e
          have pp := push (10000 + (kd p - 83)) (by omega) (Or.inr (Or.inl ⟨by omega, by omega⟩))
          exact yrd_wf h1 h2 h3 h4 pp.1 pp.2 e
        · rw [if_neg c3] at e; cases congrArg Prod.fst e
  | f + 1, false, S, o, out, p, p', C, h1, h2, h3, h4, h5, h6, e => by
    have h5 : dpt out = some (sg S + 1) := h5
    rw [yrd_f] at e
    by_cases c1 : sgK (kd p) < 9
    · rw [if_pos c1] at e
      have hs := sgK_le (kd p)
      have jd := joi_d (lv := lvl (sgK (kd p))) h2 h5 h6
      have jt := fun s T => joi_top (lv := lvl (sgK (kd p))) (S := S) (out := out) (s := s) (T := T)
      refine yrd_wf (S := sgK (kd p) :: (joiS (lvl (sgK (kd p))) S out).1) ⟨?_, joi_ok _ h1⟩ (fun x hx => ?_) (by rw [List.count_cons_of_ne (by omega), joi_cnt, h3]) h4 ?_ jd.2 e
      · by_cases z : sgK (kd p) < 2
        · refine Or.inr (Or.inl ⟨z, fun y T eT => ?_⟩)
          have el : lvl (sgK (kd p)) = 1 := by unfold lvl; rw [if_pos z]
          rcases jt y T eT with w | w
          · exact w
          · rw [el] at w; omega
        · refine Or.inr (Or.inr ⟨by omega, by omega, fun y T eT => ?_⟩)
          rcases jt y T eT with w | w
          · exact Or.inl w
          · exact Or.inr w.2
      · rcases List.mem_cons.mp hx with w | w
        · exact Or.inl (by omega)
        · exact joi_sv _ h2 x w
      · rw [sg_s _ (by omega)]; exact jd.1
    · rw [if_neg c1] at e
      have jd := joi_d (lv := 1) h2 h5 h6
      by_cases c2 : kd p = 341 ∧ 0 < o
      · rw [if_pos c2] at e
        obtain ⟨T, hT⟩ := joi_hd out (show 0 < S.count 9 by omega)
        have jc := joi_cnt (lv := 1) (S := S) out
        have js := joi_sv (lv := 1) (S := S) out h2
        have jo := joi_ok (lv := 1) (S := S) out h1
        rw [hT] at e jd jc js jo
        rw [List.count_cons_self] at jc
        rw [sg_9] at jd
        exact yrd_wf (S := T) jo.2 (fun x hx => js x (List.mem_cons_of_mem _ hx)) (by omega) (by omega) jd.1 jd.2 e
      · rw [if_neg c2] at e
        by_cases c3 : kd p = 359 ∧ o = 0
        · rw [if_pos c3] at e
          have eC : (joiS 1 S out).2 = C := Option.some.inj (congrArg Prod.fst e)
          rw [← eC]
          have jc := joi_cnt (lv := 1) (S := S) out
          have e0 : (joiS 1 S out).1 = [] := by
            cases hj : (joiS 1 S out).1 with
            | nil => rfl
            | cons s T =>
              rcases joi_top hj with w | w
              · rw [hj, w, List.count_cons_self] at jc; omega
              · omega
          rw [e0] at jd
          exact jd
        · rw [if_neg c3] at e; cases congrArg Prod.fst e
/-- a body: its rule, its kind, its code -/
def BoV (b : Bod) : Prop := b.1 < 4 ∧ b.2.1 < 31 ∧ dpt b.2.2 = some 1 ∧ ∀ x ∈ b.2.2, cdV x
theorem bodS_v {tx : Nat → Int32} {n p p' : Nat} {D : List Bod} {b : Bod} (e : bodS tx n D p = (some b, p')) : BoV b := by
  unfold bodS at e
  split at e
  · split at e
    · split at e
      · split at e
        · split at e
          · rename_i h1 h2 h3 h4 h5
            cases hy : yr tx n 241 true [] 0 [] (np tx n (np tx n (np tx n (np tx n (np tx n p))))) with
            | mk o q =>
              rw [hy] at e
              cases o with
              | none => cases congrArg Prod.fst e
              | some C =>
                have eb : _ = b := Option.some.inj (congrArg Prod.fst e)
                rw [← eb]
                have w := yrd_wf (S := []) (o := 0) (out := []) (b := true) trivial (fun x hx => absurd hx List.not_mem_nil) rfl (by decide) rfl (fun x hx => absurd hx List.not_mem_nil) hy
                exact ⟨h2, by dsimp only; omega, w.1, w.2⟩
          · cases congrArg Prod.fst e
        · cases congrArg Prod.fst e
      · cases congrArg Prod.fst e
    · cases congrArg Prod.fst e
  · cases congrArg Prod.fst e
theorem pckS_v {tx : Nat → Int32} {n : Nat} : ∀ {f p p' : Nat} {D D' : List Bod}, (∀ b ∈ D, BoV b) → pckS tx n f D p = (some D', p') → ∀ b ∈ D', BoV b
  | 0, p, p', D, D', h, e => by cases congrArg Prod.fst e
  | f + 1, p, p', D, D', h, e => by
    rw [pckS_eq] at e
    split at e
    · have : D = D' := Option.some.inj (congrArg Prod.fst e)
      rw [← this]; exact h
    · cases hb : bodS tx n D p with
      | mk o q =>
        rw [hb] at e
        cases o with
        | none => cases congrArg Prod.fst e
        | some b =>
          refine pckS_v (D := D ++ [b]) (fun c hc => ?_) e
          rcases List.mem_append.mp hc with w | w
          · exact h c w
          · rw [List.mem_singleton.mp w]; exact bodS_v hb
