/-! PERSONS: what families are, and the numbers told of them -/
def faO (pr : Nat → Option (Nat × Nat)) (i : Nat) : Option Nat := (pr i).map Prod.fst
def moO (pr : Nat → Option (Nat × Nat)) (i : Nat) : Option Nat := (pr i).map Prod.snd
/-- the sons of f among the first m persons -/
def sonN (mn : Nat → Bool) (pr : Nat → Option (Nat × Nat)) (f : Nat) : Nat → Nat
  | 0 => 0
  | m + 1 => sonN mn pr f m + (if mn m = true ∧ faO pr m = some f then 1 else 0)
/-- the children of p among the first m persons -/
def kidN (pr : Nat → Option (Nat × Nat)) (p : Nat) : Nat → Nat
  | 0 => 0
  | m + 1 => kidN pr p m + (if faO pr m = some p ∨ moO pr m = some p then 1 else 0)
def gnF (pr : Nat → Option (Nat × Nat)) : Nat → Nat → Nat
  | 0, _ => 0
  | f + 1, i => match faO pr i with
    | none => 0
    | some q => gnF pr f q + 1
def mkN (mn : Nat → Bool) (pr : Nat → Option (Nat × Nat)) (i : Nat) : Nat := if mn i = true then (match faO pr i with
  | none => 0
  | some f => sonN mn pr f i) else 0
def heS (mn : Nat → Bool) (pr : Nat → Option (Nat × Nat)) (n p : Nat) : Bool := !mn p && (match faO pr p with
  | none => false
  | some f => decide (sonN mn pr f n = 0))
def adQ (l : List Nat) (s : Nat) : List Nat := if s ∈ l ∨ 32 ≤ l.length then l else l ++ [s]
def joQ (l a : List Nat) : List Nat := a.foldl adQ l
/-- the quarterings of person p, those of the earlier ones being T -/
def qO (mn : Nat → Bool) (pr : Nat → Option (Nat × Nat)) (sd : Nat → Nat) (n : Nat) (T : Nat → List Nat) (p : Nat) : List Nat := match pr p with
  | none => [sd p]
  | some (f, m) => if heS mn pr n m = true then joQ (joQ [] (T f)) (T m) else joQ [] (T f)
def qT (mn : Nat → Bool) (pr : Nat → Option (Nat × Nat)) (sd : Nat → Nat) (n : Nat) : Nat → Nat → List Nat
  | 0, _ => []
  | p + 1, i => if i = p then qO mn pr sd n (qT mn pr sd n p) p else qT mn pr sd n p i
/-- families as they can be: n persons, ns shields -/
def PsV (n : Nat) (mn : Nat → Bool) (pr : Nat → Option (Nat × Nat)) (sd : Nat → Nat) (mr : Nat → Option Nat) (ns : Nat) : Prop := n ≤ 100 ∧ ns ≤ 60 ∧ (∀ i, i < n → ∀ f m, pr i = some (f, m) → f < i ∧ m < i ∧ mn f = true ∧ mn m = false ∧ mr f = some m) ∧ (∀ i, i < n → pr i = none → sd i < ns) ∧ (∀ i, i < n → ∀ j, mr i = some j → j < n ∧ mr j = some i ∧ mn j = !mn i)
theorem adQ_le {l : List Nat} {s : Nat} (h : l.length ≤ 32) : (adQ l s).length ≤ 32 := by
  unfold adQ
  split
  · exact h
  · rename_i z
    rw [List.length_append]
    have : [s].length = 1 := rfl
    have : ¬ 32 ≤ l.length := fun y => z (Or.inr y)
    omega
theorem joQ_le : ∀ {a l : List Nat}, l.length ≤ 32 → (joQ l a).length ≤ 32
  | [], _, h => h
  | _ :: a, _, h => joQ_le (a := a) (adQ_le h)
theorem adQ_in {l : List Nat} {s : Nat} (h : ∀ x ∈ l, x < 60) (hs : s < 60) : ∀ x ∈ adQ l s, x < 60 := by
  unfold adQ
  split
  · exact h
  · intro x hx
    rcases List.mem_append.mp hx with y | y
    · exact h x y
    · rw [List.mem_singleton.mp y]; exact hs
theorem joQ_in : ∀ {a l : List Nat}, (∀ x ∈ l, x < 60) → (∀ x ∈ a, x < 60) → ∀ x ∈ joQ l a, x < 60
  | [], _, h, _ => h
  | _ :: a, _, h, ha => joQ_in (a := a) (adQ_in h (ha _ (List.mem_cons_self ..))) (fun x hx => ha x (List.mem_cons_of_mem _ hx))
theorem joQ_snoc (l a : List Nat) (s : Nat) : joQ l (a ++ [s]) = adQ (joQ l a) s := by
  unfold joQ
  rw [List.foldl_append]
  rfl
section
variable {n ns : Nat} {mn : Nat → Bool} {pr : Nat → Option (Nat × Nat)} {sd : Nat → Nat} {mr : Nat → Option Nat}
theorem qT_ok (V : PsV n mn pr sd mr ns) : ∀ p, p ≤ n → ∀ i, (qT mn pr sd n p i).length ≤ 32 ∧ ∀ x ∈ qT mn pr sd n p i, x < 60
  | 0, _, i => ⟨Nat.zero_le _, fun x hx => by cases hx⟩
  | p + 1, hp, i => by
    have ih := qT_ok V p (by omega)
    unfold qT
    by_cases z : i = p
    · rw [if_pos z]
      unfold qO
      split
      · rename_i e
        refine ⟨by show 1 ≤ 32; decide, fun x hx => ?_⟩
        rw [List.mem_singleton.mp hx]
        have h1 := V.2.2.2.1 p (by omega) e
        have h2 := V.2.1
        omega
      · rename_i f m e
        have j1 : (joQ [] (qT mn pr sd n p f)).length ≤ 32 := joQ_le (Nat.zero_le _)
        have j2 : ∀ x ∈ joQ [] (qT mn pr sd n p f), x < 60 := joQ_in (fun x hx => by cases hx) (ih f).2
        split
        · exact ⟨joQ_le j1, joQ_in j2 (ih m).2⟩
        · exact ⟨j1, j2⟩
    · rw [if_neg z]; exact ih i
theorem qT_lt : ∀ {p i : Nat}, i < p → qT mn pr sd n p i = qT mn pr sd n (i + 1) i
  | p + 1, i, h => by
    by_cases z : i = p
    · rw [z]
    · rw [← qT_lt (p := p) (by omega)]
      exact if_neg z
theorem qT_eq (p : Nat) : qT mn pr sd n (p + 1) p = qO mn pr sd n (qT mn pr sd n p) p := if_pos rfl
theorem sonN_le (f : Nat) : ∀ m, sonN mn pr f m ≤ m
  | 0 => Nat.le_refl _
  | m + 1 => by
    have := sonN_le f m
    unfold sonN
    split <;> omega
theorem kidN_le (f : Nat) : ∀ m, kidN pr f m ≤ m
  | 0 => Nat.le_refl _
  | m + 1 => by
    have := kidN_le f m
    unfold kidN
    split <;> omega
theorem gnF_le : ∀ f i, gnF pr f i ≤ f
  | 0, _ => Nat.le_refl _
  | f + 1, i => by
    unfold gnF
    split
    · omega
    · have := gnF_le f (by assumption)
      omega
theorem fa_v (V : PsV n mn pr sd mr ns) {i f : Nat} (hi : i < n) (e : faO pr i = some f) : f < i ∧ mn f = true := by
  unfold faO at e
  cases h : pr i with
  | none => rw [h] at e; cases e
  | some q =>
    obtain ⟨a, b⟩ := q
    rw [h] at e
    have e2 : a = f := Option.some.inj e
    have v := V.2.2.1 i hi a b h
    rw [← e2]
    exact ⟨v.1, v.2.2.1⟩
theorem gnF_fuel (V : PsV n mn pr sd mr ns) : ∀ {f g i : Nat}, i < n → i < f → i < g → gnF pr f i = gnF pr g i
  | f + 1, g + 1, i, hi, h1, h2 => by
    unfold gnF
    split
    · rfl
    · rename_i q e
      have := (fa_v V hi e).1
      rw [gnF_fuel V (f := f) (g := g) (i := q) (by omega) (by omega) (by omega)]
end
/-- a function changed at one place -/
def upf {α : Type} (f : Nat → α) (k : Nat) (v : α) : Nat → α := fun j => if j = k then v else f j
theorem upf_eq {α : Type} (f : Nat → α) (k : Nat) (v : α) : upf f k v k = v := if_pos rfl
theorem upf_ne {α : Type} {f : Nat → α} {k j : Nat} {v : α} (h : j ≠ k) : upf f k v j = f j := if_neg h
section
variable {mn : Nat → Bool} {pr : Nat → Option (Nat × Nat)} {n : Nat} {b : Bool} {x : Option (Nat × Nat)}
theorem faO_up {i : Nat} (h : i ≠ n) : faO (upf pr n x) i = faO pr i := by unfold faO; rw [upf_ne h]
theorem moO_up {i : Nat} (h : i ≠ n) : moO (upf pr n x) i = moO pr i := by unfold moO; rw [upf_ne h]
theorem sonN_up (f : Nat) : ∀ m, m ≤ n → sonN (upf mn n b) (upf pr n x) f m = sonN mn pr f m
  | 0, _ => rfl
  | m + 1, h => by
    unfold sonN
    rw [sonN_up f m (by omega), upf_ne (by omega), faO_up (by omega)]
theorem kidN_up (f : Nat) : ∀ m, m ≤ n → kidN (upf pr n x) f m = kidN pr f m
  | 0, _ => rfl
  | m + 1, h => by
    unfold kidN
    rw [kidN_up f m (by omega), moO_up (by omega), faO_up (by omega)]
theorem gnF_up (hp : ∀ i q, i < n → faO pr i = some q → q < i) : ∀ f i, i < n → gnF (upf pr n x) f i = gnF pr f i
  | 0, _, _ => rfl
  | f + 1, i, h => by
    unfold gnF
    rw [faO_up (by omega)]
    split
    · rfl
    · rename_i q e
      have := hp i q h e
      rw [gnF_up hp f q (by omega)]
theorem mkN_up {i : Nat} (h : i < n) : mkN (upf mn n b) (upf pr n x) i = mkN mn pr i := by
  unfold mkN
  rw [upf_ne (by omega), faO_up (by omega)]
  split
  · split
    · rfl
    · rw [sonN_up _ i (by omega)]
  · rfl
end
