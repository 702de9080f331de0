/-! the class's familyOf, kindInSeat, packOfSeat -/
theorem s101r {d a i : Nat} {h : Hp} {K : Int32 → Hp → Prop} (hl : (romI a).length < 2 ^ 20) (hi : i < (romI a).length) (k : K ((romI a).getD i 0) h) : CI (d + 1) 101 [vR 42 (some a), vI (nI i)] h K := by
  intro P hP
  refine v101r hP (some a) (nI i) h ⟨fun c => absurd c (nI_pos (by omega)), fun _ => dr_of rfl ⟨fun c => absurd c (nI_ge (b := (romI a).length) hi (by omega)), fun _ => dr_of rfl ⟨vp_in_nI hi (by omega), _, rfl, ?_⟩⟩⟩
  rw [show ix (nI i) = i from nI_clamp (by omega)]
  exact k
theorem s101n {d a : Nat} {x : Int32} {h : Hp} {K : Int32 → Hp → Prop} (hx : x < 0) (k : K (-1) h) : CI (d + 1) 101 [vR 42 (some a), vI x] h K := fun P hP => v101r hP (some a) x h ⟨fun _ => ⟨_, rfl, k⟩, fun c => absurd hx c⟩
/-- a kind's family by number, 99: none -/
def fmK (k : Nat) : Nat := if k = 0 then 99 else if k < 3 then 0 else if k < 7 then 2 else if k < 16 then 1 else if k < 19 then 3 else if k < 21 then 4 else if k < 24 then 5 else if k < 31 then 6 else 99
/-- the kind so many families up -/
def fmI : Nat → Nat → Nat
  | 0, k => k
  | m + 1, k => fmI m (fmK k)
theorem fam_all : (List.range 31).all (fun k => decide ((romI 0).getD k 0 = tnI (fmK k)) && decide (famS (nI k) = tnI (fmK k))) = true := by decide +kernel
theorem romI_len : (romI 0).length = 31 := by decide +kernel
theorem s100 {d k : Nat} {h : Hp} {K : Int32 → Hp → Prop} (hk : k < 31 ∨ k = 99) (kk : K (tnI (fmK k)) h) : CI (d + 2) 100 [vI (tnI k)] h K := by
  intro P hP
  rcases hk with z | z
  · have e : tnI k = nI k := if_neg (by omega)
    have fa := all_r fam_all z
    simp only [Bool.and_eq_true, decide_eq_true_eq] at fa
    rw [e]
    exact v100 hP (nI k) h (s101r (by rw [romI_len]; decide) (by rw [romI_len]; exact z) ⟨_, rfl, by rw [fa.1]; exact kk⟩)
  · subst z
    exact v100 hP (tnI 99) h (s101n (by decide) ⟨_, rfl, kk⟩)
theorem fmK_v (k : Nat) (h : k < 31 ∨ k = 99) : fmK k < 31 ∨ fmK k = 99 := by
  unfold fmK
  (repeat' split) <;> omega
theorem k4 {d seat : Nat} {l0 : Int32} {h : Hp} {K : Int32 → Hp → Prop} {P : Nat → List AV → List AV → Hp → Prop} (hP : Cl (Call (d + 2)) 5 (fun v h' => ∃ x, v = some (vI x) ∧ K x h') P) (hs : seat < 8) : ∀ mm t k, t + mm = seat / 2 → (k < 31 ∨ k = 99) → K (tnI (fmI mm k)) h → P 4 [vI l0, vI (nI seat), vI (tnI k), vI (nI t)] [] h
  | 0, t, k, ht, hk, kk => by
    have e : nI seat / 2 = nI (seat / 2) := pk_div (d := 2) (by omega) (by decide) (by decide)
    refine v5_4 hP l0 (nI seat) (tnI k) (nI t) h ⟨fun _ => ⟨_, rfl, kk⟩, fun c => absurd ?_ c⟩
    rw [e]; exact nI_le (by omega) (by omega)
  | mm + 1, t, k, ht, hk, kk => by
    have e : nI seat / 2 = nI (seat / 2) := pk_div (d := 2) (by omega) (by decide) (by decide)
    refine v5_4 hP l0 (nI seat) (tnI k) (nI t) h ⟨fun c => absurd (by rw [e] at c; exact c) (nI_ge (by omega) (by omega)), fun _ => s100 hk ?_⟩
    rw [nI_1]
    exact k4 hP hs mm (t + 1) (fmK k) (by omega) (fmK_v k hk) kk
/-- kindInSeat(kind, seat) -/
theorem s5 {d k seat : Nat} {h : Hp} {K : Int32 → Hp → Prop} (hk : k < 31) (hs : seat < 8) (kk : K (tnI (fmI (seat / 2) k)) h) : CI (d + 3) 5 [vI (nI k), vI (nI seat)] h K := by
  intro P hP
  have e : tnI k = nI k := if_neg (by omega)
  have := k4 (l0 := nI k) (t := 0) hP hs (seat / 2) k (by omega) (Or.inl hk) kk
  rw [e] at this
  exact v5 hP (nI k) (nI seat) h this
/-- the Bench: common pack 0, the offices' packs pk, the draft dr -/
def BnS (h : Hp) (pk : Nat → Nat) (dr : Nat) : Prop := BkS h ∧ 0 < jN h 31 ∧ jR h 0 0 0 = some 0 ∧ jR h 0 0 1 = some 0 ∧ jLen h 31 0 = 4 ∧ (∀ o, o < 4 → jR h 31 0 o = some (pk o)) ∧ jR h 0 0 2 = some dr ∧ (∀ o, o < 4 → PkS h (pk o)) ∧ PkS h dr ∧ PkS h 0 ∧ (∀ o, o < 4 → pk o ≠ dr ∧ pk o ≠ 0) ∧ dr ≠ 0 ∧ ∀ o o', o < 4 → o' < 4 → pk o = pk o' → o = o'
/-- packOfSeat(seat, office) -/
theorem s4 {d seat o dr : Nat} {pk : Nat → Nat} {h : Hp} {K : Option Nat → Hp → Prop} (B : BnS h pk dr) (hs : seat < 8) (ho : o < 4) (k : K (some (if seat % 2 = 0 then pk o else 0)) h) : CR (d + 2) 4 1 [vR 0 (some 0), vI (nI seat), vI (nI o)] h K := by
  intro P hP
  obtain ⟨b1, b2, b3, b4, b5, b6, -⟩ := B
  have e : nI seat - nI seat / 2 * 2 = nI (seat % 2) := pk_rem (d := 2) (by omega) (by decide) (by decide)
  refine v4 hP 0 (nI seat) (nI o) h ?_
  rw [e]
  refine ⟨fun c => ⟨_, rfl, ?_⟩, fun c => s94 ⟨fun z => absurd z ?_, fun _ => dr_of b4 ⟨by rw [b5]; exact vp_in_nI ho (by decide), _, rfl, ?_⟩⟩⟩
  · have c : ¬ seat % 2 = 0 := fun z => c (by rw [z]; rfl)
    rw [if_neg c] at k
    rw [b3]; exact k
  · have hc : o = 0 ∨ o = 1 ∨ o = 2 ∨ o = 3 := by omega
    rcases hc with rfl | rfl | rfl | rfl <;> decide
  · have c : seat % 2 = 0 := (nI_eq (a := seat % 2) (b := 0) (by omega) (by omega)).mp (Classical.not_not.mp c)
    rw [if_pos c] at k
    rw [show ix (nI o) = o from nI_clamp (by omega), b6 o ho]
    exact k
/-- the body in a seat: of the office's own pack in even seats, else of the common one -/
def sfS (Do Dc : List Bod) (r k seat : Nat) : Option Bod := (fnd (if seat % 2 = 0 then Do else Dc) (nI r) (tnI (fmI (seat / 2) k)) 0).bind (fun i => (if seat % 2 = 0 then Do else Dc)[i]?)
theorem fnd_at : ∀ {D : List Bod} {r k : Int32} {i j : Nat}, fnd D r k i = some j → ∃ t b, j = i + t ∧ D[t]? = some b ∧ nI b.1 = r ∧ nI b.2.1 = k
  | [], r, k, i, j, e => by cases e
  | b :: D, r, k, i, j, e => by
    unfold fnd at e
    by_cases z : nI b.1 = r ∧ nI b.2.1 = k
    · rw [if_pos z] at e
      exact ⟨0, b, by have := Option.some.inj e; omega, rfl, z.1, z.2⟩
    · rw [if_neg z] at e
      obtain ⟨t, c, h1, h2, h3, h4⟩ := fnd_at e
      exact ⟨t + 1, c, by omega, h2, h3, h4⟩
/-- value and bodies begun, over the last m seats -/
def nvM (sf : Nat → Option Bod) (val : Nat → Int32) : Nat → Int32 × Int32
  | 0 => (0, 0)
  | m + 1 => match sf (7 - m) with
    | none => nvM sf val m
    | some b => (evB val (nvM sf val m).1 b.2.2, 1 + nI (b.2.2.count 10008) * (nvM sf val m).2)
