/-! the reference's persons: heiresses, quarterings -/
def PeR (h : Hp) (n : Nat) (mn : Nat → Bool) (pr : Nat → Option (Nat × Nat)) (sd : Nat → Nat) (mr : Nat → Option Nat) : Prop := jI h 11 0 40 = nI n ∧ ∀ i, i < n → jI h 24 0 i = bi (mn i) ∧ jI h 21 18 i = mR (faO pr i) ∧ jI h 21 19 i = mR (moO pr i) ∧ (pr i = none → jI h 21 20 i = nI (sd i)) ∧ jI h 21 21 i = mR (mr i)
def QstR (h : Hp) (p : Nat) (l : List Nat) : Prop := l.length ≤ 32 ∧ jI h 21 23 p = nI l.length ∧ ∀ j x, l[j]? = some x → jI h 21 22 (32 * p + j) = nI x
def XK (p : Nat) : Nat → Nat → Nat → Prop := fun t a k => t = 21 ∧ ((a = 22 ∧ 32 * p ≤ k ∧ k < 32 * p + 32) ∨ (a = 23 ∧ k = p))
def XKa : Nat → Nat → Nat → Prop := fun t a _ => t = 21 ∧ (a = 22 ∨ a = 23)
theorem xka {p : Nat} : ∀ t a k, XK p t a k → XKa t a k := fun t a k z => ⟨z.1, by rcases z.2 with y | y; exact Or.inl y.1; exact Or.inr y.1⟩
theorem EqX.sub {X Y : Nat → Nat → Nat → Prop} {H G : Hp} (E : EqX X H G) (h : ∀ t a k, X t a k → Y t a k) : EqX Y H G := by
  obtain ⟨e1, e2, e3, e4, e5, e6, e7⟩ := E
  exact ⟨e1, e2, e3, e4, e5, e6, fun t a k z => e7 t a k (fun y => z (h t a k y))⟩
theorem EqX.I {X : Nat → Nat → Nat → Prop} {H G : Hp} (E : EqX X H G) {t a k : Nat} (h : ¬ X t a k) : jI G t a k = jI H t a k := E.2.2.2.2.2.2 t a k h
theorem mR_s (j : Nat) : mR (some j) = nI j := rfl
theorem mR_eq {a b : Option Nat} (ha : ∀ i, a = some i → i < 2 ^ 30) (hb : ∀ i, b = some i → i < 2 ^ 30) : mR a = mR b ↔ a = b := by
  refine ⟨fun z => ?_, fun z => by rw [z]⟩
  cases a with
  | none =>
    cases b with
    | none => rfl
    | some j => exact absurd z.symm (nI_m1 (hb j rfl))
  | some i =>
    cases b with
    | none => exact absurd z (nI_m1 (ha i rfl))
    | some j =>
      have h1 := ha i rfl
      have h2 := hb j rfl
      rw [(nI_eq (a := i) (b := j) (by omega) (by omega)).mp z]
section
variable {n ns : Nat} {mn : Nat → Bool} {pr : Nat → Option (Nat × Nat)} {sd : Nat → Nat} {mr : Nat → Option Nat}
theorem PeR.eq {X : Nat → Nat → Nat → Prop} {h h' : Hp} (Q : PeR h n mn pr sd mr) (E : EqX X h h') (h1 : ¬ X 11 0 40) (h2 : ∀ i, ¬ X 24 0 i) (h3 : ∀ a i, 18 ≤ a → a ≤ 21 → ¬ X 21 a i) : PeR h' n mn pr sd mr := by
  refine ⟨by rw [E.I h1]; exact Q.1, fun i hi => ?_⟩
  obtain ⟨q1, q2, q3, q4, q5⟩ := Q.2 i hi
  rw [E.I (h2 i), E.I (h3 18 i (by decide) (by decide)), E.I (h3 19 i (by decide) (by decide)), E.I (h3 20 i (by decide) (by decide)), E.I (h3 21 i (by decide) (by decide))]
  exact ⟨q1, q2, q3, q4, q5⟩
theorem PeR.ka {h h' : Hp} (Q : PeR h n mn pr sd mr) (E : EqX XKa h h') : PeR h' n mn pr sd mr := Q.eq E (fun z => by cases z.1) (fun i z => by cases z.1) (fun a i h1 h2 z => by rcases z.2 with y | y <;> omega)
theorem QstR.eq {X : Nat → Nat → Nat → Prop} {h h' : Hp} {p : Nat} {l : List Nat} (Q : QstR h p l) (E : EqX X h h') (h1 : ¬ X 21 23 p) (h2 : ∀ j, j < 32 → ¬ X 21 22 (32 * p + j)) : QstR h' p l := by
  refine ⟨Q.1, by rw [E.I h1]; exact Q.2.1, fun j x e => ?_⟩
  have hj := (List.getElem?_eq_some_iff.mp e).1
  have := Q.1
  rw [E.I (h2 j (by omega))]
  exact Q.2.2 j x e
theorem fa30 (V : PsV n mn pr sd mr ns) {i : Nat} (hi : i < n) : ∀ f, faO pr i = some f → f < 2 ^ 30 := fun f e => by
  have h1 := (fa_v V hi e).1
  have h2 := V.1
  omega
theorem mr30 (V : PsV n mn pr sd mr ns) {i : Nat} (hi : i < n) : ∀ f, mr i = some f → f < 2 ^ 30 := fun f e => by
  have h1 := (V.2.2.2.2 i hi f e).1
  have h2 := V.1
  omega
/-- isPerson(p) -/
theorem s206 {d : Nat} {x : Int32} {h : Hp} {K : Int32 → Hp → Prop} (e : jI h 11 0 40 = nI n) (hn : n ≤ 100) (k0 : (∀ j, j < n → ¬ x = nI j) → K 0 h) (k1 : ∀ j, j < n → x = nI j → K 1 h) : CI (d + 1) 206 [vR 11 (some 0), vI x] h K := by
  intro P hP
  refine v206 hP 0 x h ⟨fun c => ⟨_, rfl, k0 (fun j hj z => ?_)⟩, fun c => ⟨fun c2 => ⟨_, rfl, k0 (fun j hj z => ?_)⟩, fun c2 => ?_⟩⟩
  · rw [z] at c; exact nI_pos (by omega) c
  · rw [e, z] at c2; exact nI_ge hj (by omega) c2
  · obtain ⟨j, hj, ej⟩ := nI_of c
    refine ⟨_, rfl, k1 j ?_ ej⟩
    rw [e, ej] at c2
    rcases Nat.lt_or_ge j n with z | z
    · exact z
    · exact absurd (nI_le z (by omega)) c2
theorem sonN_mono (f : Nat) : ∀ {m m' : Nat}, m ≤ m' → sonN mn pr f m ≤ sonN mn pr f m'
  | m, 0, h => by rw [show m = 0 by omega]; exact Nat.le_refl _
  | m, m' + 1, h => by
    by_cases z : m = m' + 1
    · rw [z]; exact Nat.le_refl _
    · have := sonN_mono f (m := m) (m' := m') (by omega)
      exact Nat.le_trans this (Nat.le_add_right _ _)
theorem bi_ne {b : Bool} : ¬ bi b = 0 ↔ b = true := by
  cases b
  · exact ⟨fun z => absurd rfl z, fun z => by cases z⟩
  · exact ⟨fun _ => rfl, fun _ => by decide⟩
theorem bi_z {b : Bool} : bi b = 0 ↔ b = false := by
  cases b
  · exact ⟨fun _ => rfl, fun _ => rfl⟩
  · exact ⟨fun z => absurd z (by decide), fun z => by cases z⟩
theorem c211 {d p f : Nat} {h : Hp} {K : Int32 → Hp → Prop} {P : Nat → List AV → List AV → Hp → Prop} (hP : Cl (Call d) 211 (fun v h' => ∃ x, v = some (vI x) ∧ K x h') P) (S : RSh h) (V : PsV n mn pr sd mr ns) (Q : PeR h n mn pr sd mr) (hp : p < n) (hf : faO pr p = some f) (k0 : ¬ sonN mn pr f n = 0 → K 0 h) (k1 : sonN mn pr f n = 0 → K 1 h) : ∀ mm q, q + mm = n → sonN mn pr f q = 0 → P 23 [vR 11 (some 0), vI (nI p), vI (nI q)] [] h
  | 0, q, hq, hz => by
    have hqn : q = n := by omega
    subst hqn
    have hn := V.1
    exact v211_23 hP 0 (nI p) (nI q) h ⟨fun _ => ⟨_, rfl, k1 hz⟩, fun c => absurd (by rw [Q.1]; exact nI_le (Nat.le_refl _) (by omega)) c⟩
  | mm + 1, q, hq, hz => by
    have hn := V.1
    have iq : ix (nI q) = q := nI_clamp (by omega)
    have ip : ix (nI p) = p := nI_clamp (by omega)
    obtain ⟨a1, a2, a3, a4, a5⟩ := Q.2 q (by omega)
    obtain ⟨b1, b2, b3, b4, b5⟩ := Q.2 p hp
    have go : ¬ (mn q = true ∧ faO pr q = some f) → P 23 [vR 11 (some 0), vI (nI p), vI (nI q + 1)] [] h := fun z => by
      rw [nI_1]
      refine c211 hP S V Q hp hf k0 k1 mm (q + 1) (by omega) ?_
      show sonN mn pr f q + (if mn q = true ∧ faO pr q = some f then 1 else 0) = 0
      rw [if_neg z, hz]
    refine v211_23 hP 0 (nI p) (nI q) h ⟨fun c => absurd (by rw [Q.1] at c; exact c) (nI_ge (show q < n by omega) (by omega)), fun _ => dr_of S.r41 ⟨by rw [S.n41]; exact vp_in_nI (by omega) (by decide), fun c => ?_, fun c => dr_of S.r42 ⟨by rw [S.n42]; exact vp_in_nI (by omega) (by decide), dr_of S.r42 ⟨by rw [S.n42]; exact vp_in_nI (by omega) (by decide), fun c2 => ?_, fun c2 => ⟨_, rfl, k0 ?_⟩⟩⟩⟩⟩
    · rw [iq, a1, bi_z] at c
      exact go (fun z => by rw [z.1] at c; cases c)
    · rw [iq, ip, a2, b2, mR_eq (fa30 V (by omega)) (fa30 V hp), hf] at c2
      exact go (fun z => c2 z.2)
    · rw [iq, a1, bi_ne] at c
      rw [iq, ip, a2, b2, mR_eq (fa30 V (by omega)) (fa30 V hp), hf] at c2
      have c3 := Classical.not_not.mp c2
      have h1 : sonN mn pr f (q + 1) ≤ sonN mn pr f n := sonN_mono f (by omega)
      have h2 : sonN mn pr f (q + 1) = sonN mn pr f q + 1 := by
        show sonN mn pr f q + (if mn q = true ∧ faO pr q = some f then 1 else 0) = _
        rw [if_pos ⟨c, c3⟩]
      omega
/-- isHeiress(p) -/
theorem s211 {d p : Nat} {h : Hp} {K : Int32 → Hp → Prop} (S : RSh h) (V : PsV n mn pr sd mr ns) (Q : PeR h n mn pr sd mr) (hp : p < n) (k : K (bi (heS mn pr n p)) h) : CI (d + 1) 211 [vR 11 (some 0), vI (nI p)] h K := by
  intro P hP
  have hn := V.1
  have ip : ix (nI p) = p := nI_clamp (by omega)
  obtain ⟨b1, b2, b3, b4, b5⟩ := Q.2 p hp
  unfold heS at k
  refine v211 hP 0 (nI p) h (dr_of S.r41 ⟨by rw [S.n41]; exact vp_in_nI (by omega) (by decide), fun c => ⟨_, rfl, ?_⟩, fun c => dr_of S.r42 ⟨by rw [S.n42]; exact vp_in_nI (by omega) (by decide), fun c2 => ?_, fun c2 => ⟨_, rfl, ?_⟩⟩⟩)
  · rw [ip, b1, bi_ne] at c
    rw [c] at k
    exact k
  · rw [ip, b1, bi_ne] at c
    have hm : mn p = false := by
      cases hb : mn p with
      | false => rfl
      | true => exact absurd hb c
    rw [hm] at k
    rw [ip, b2] at c2
    cases hf : faO pr p with
    | none => rw [hf] at c2; exact absurd rfl c2
    | some f =>
      rw [hf] at k
      refine c211 (q := 0) hP S V Q hp hf (fun z => ?_) (fun z => ?_) n (by omega) rfl
      · have : (!false && decide (sonN mn pr f n = 0)) = false := by rw [decide_eq_false z]; rfl
        rw [this] at k
        exact k
      · have : (!false && decide (sonN mn pr f n = 0)) = true := by rw [decide_eq_true z]; rfl
        rw [this] at k
        exact k
  · rw [ip, b2] at c2
    have c3 := Classical.not_not.mp c2
    have hf : faO pr p = none := (mR_eq (b := none) (fa30 V hp) (fun i z => by cases z)).mp c3
    rw [hf] at k
    have : (!mn p && false) = false := Bool.and_false _
    rw [this] at k
    exact k
end
theorem q32 (p j : Nat) : (32 : Int32) * nI p + nI j = nI (32 * p + j) := by
  have h1 : (32 : Int32) * nI p = nI (32 * p) := by
    show Int32.ofNat 32 * Int32.ofNat p = Int32.ofNat (32 * p)
    exact (Int32.ofNat_mul 32 p).symm
  rw [h1, nI_add]
theorem q32a (p : Nat) : (32 : Int32) * nI p = nI (32 * p) := by
  show Int32.ofNat 32 * Int32.ofNat p = Int32.ofNat (32 * p)
  exact (Int32.ofNat_mul 32 p).symm
/-- is s among the first -/
theorem c210i {d p f i s : Nat} {l : List Nat} {h : Hp} {K : Hp → Prop} {P : Nat → List AV → List AV → Hp → Prop} (hP : Cl (Call d) 210 (fun v h' => v = none ∧ K h') P) (S : RSh h) (hp : p < 100) (Q : QstR h p l) (hl : ∀ x ∈ l, x < 60) (hs : s < 60) (g1 : s ∈ l ∨ 32 ≤ l.length → ∀ w5 w6 : AV, P 2 [vR 11 (some 0), vI (nI p), vI (nI f), vI (nI i + 1), vI (nI s), w5, w6] [] h) (g2 : ¬ (s ∈ l ∨ 32 ≤ l.length) → ∀ w5 w6 : AV, P 2 [vR 11 (some 0), vI (nI p), vI (nI f), vI (nI i + 1), vI (nI s), w5, w6] [] (wI (wI h 21 22 (32 * p + l.length) (nI s)) 21 23 p (nI (l.length + 1)))) : ∀ mm k, k + mm = l.length → P 31 [vR 11 (some 0), vI (nI p), vI (nI f), vI (nI i), vI (nI s), vI (bi (decide (s ∈ l.take k))), vI (nI k)] [] h
  | 0, k, hk => by
    have hkl : k = l.length := by omega
    subst hkl
    obtain ⟨q1, q2, q3⟩ := Q
    have ip : ix (nI p) = p := nI_clamp (by omega)
    have v23 : vp_in (nI p) (jLen h 21 23) := by rw [S.n47]; exact vp_in_nI hp (by decide)
    rw [List.take_length]
    refine v210_31 hP 0 (nI p) (nI f) (nI i) (nI s) _ (nI l.length) h (dr_of S.r47 ⟨v23, fun _ => ⟨fun c => g1 (Or.inl ?_) _ _, fun c => dr_of S.r47 ⟨v23, fun c2 => dr_of S.r47 ⟨v23, dr_of S.r46 ⟨?_, dr_of S.r47 ⟨v23, dr_of S.r47 ⟨v23, ?_⟩⟩⟩⟩, fun c2 => g1 (Or.inr ?_) _ _⟩⟩, fun c => absurd ?_ c⟩)
    · rw [bi_ne, decide_eq_true_eq] at c; exact c
    · rw [ip, q2] at c2 ⊢
      have hlt : l.length < 32 := by
        rcases Nat.lt_or_ge l.length 32 with z | z
        · exact z
        · exact absurd (by rw [show l.length = 32 by omega]; rfl) c2
      rw [q32, S.n46]
      exact vp_in_nI (by omega) (by decide)
    · rw [ip, q2] at c2 ⊢
      have hlt : l.length < 32 := by
        rcases Nat.lt_or_ge l.length 32 with z | z
        · exact z
        · exact absurd (by rw [show l.length = 32 by omega]; rfl) c2
      have hno : ¬ s ∈ l := fun z => c (by rw [decide_eq_true z]; decide)
      have i2 : ix (nI (32 * p + l.length)) = 32 * p + l.length := nI_clamp (by omega)
      rw [q32, i2, jI_a (by decide), q2, nI_1 l.length]
      exact g2 (fun z => by rcases z with z | z; exact hno z; omega) _ _
    · rw [ip, q2] at c2
      have c3 := Classical.not_not.mp c2
      have : l.length = 32 := (nI_eq (a := l.length) (b := 32) (by omega) (by decide)).mp c3
      omega
    · rw [ip, q2]; exact nI_le (Nat.le_refl _) (by omega)
  | mm + 1, k, hk => by
    obtain ⟨q1, q2, q3⟩ := id Q
    have ip : ix (nI p) = p := nI_clamp (by omega)
    have hlt : k < l.length := by omega
    have v23 : vp_in (nI p) (jLen h 21 23) := by rw [S.n47]; exact vp_in_nI hp (by decide)
    have hg : l[k]? = some l[k] := List.getElem?_eq_getElem hlt
    have i2 : ix (nI (32 * p + k)) = 32 * p + k := nI_clamp (by omega)
    have hm : s ∈ l.take (k + 1) ↔ s ∈ l.take k ∨ s = l[k] := by
      rw [List.take_add_one, hg, List.mem_append]
      show s ∈ l.take k ∨ s ∈ [l[k]] ↔ _
      rw [List.mem_singleton]
    have ih := c210i hP S hp Q hl hs g1 g2 mm (k + 1) (by omega)
    refine v210_31 hP 0 (nI p) (nI f) (nI i) (nI s) _ (nI k) h (dr_of S.r47 ⟨v23, fun c => absurd (by rw [ip, q2] at c; exact c) (nI_ge hlt (by omega)), fun _ => ⟨fun c => ?_, fun c => dr_of S.r46 ⟨?_, fun c2 => ?_, fun c2 => ?_⟩⟩⟩)
    · rw [bi_ne, decide_eq_true_eq] at c
      rw [decide_eq_true (hm.mpr (Or.inl c))] at ih
      rw [nI_1]; exact ih
    · rw [q32, S.n46]; exact vp_in_nI (by omega) (by decide)
    · rw [q32, i2, q3 k _ hg] at c2
      have hx := hl _ (List.mem_of_getElem? hg)
      have hne : ¬ s = l[k] := fun z => c2 (by rw [z])
      have hno : ¬ s ∈ l.take k := fun z => c (by rw [decide_eq_true z]; decide)
      rw [decide_eq_false (fun z => by rcases hm.mp z with y | y; exact hno y; exact hne y)] at ih
      rw [nI_1]; exact ih
    · rw [q32, i2, q3 k _ hg] at c2
      have hx := hl _ (List.mem_of_getElem? hg)
      have c3 := (nI_eq (by omega) (by omega)).mp (Classical.not_not.mp c2)
      rw [decide_eq_true (hm.mpr (Or.inr c3.symm))] at ih
      rw [nI_1]; exact ih
theorem c210 {d p f : Nat} {l0 a : List Nat} {h0 : Hp} {K : Hp → Prop} {P : Nat → List AV → List AV → Hp → Prop} (hP : Cl (Call d) 210 (fun v h' => v = none ∧ K h') P) (S : RSh h0) (hp : p < 100) (hf : f < p) (A : QstR h0 f a) (ha : ∀ x ∈ a, x < 60) (hl0 : ∀ x ∈ l0, x < 60) (k : ∀ h', EqX (XK p) h0 h' → QstR h' p (joQ l0 a) → K h') : ∀ (b : List Nat) (t : Nat) (h : Hp) (w4 w5 w6 : AV), a.drop t = b → t ≤ a.length → EqX (XK p) h0 h → QstR h p (joQ l0 (a.take t)) → P 2 [vR 11 (some 0), vI (nI p), vI (nI f), vI (nI t), w4, w5, w6] [] h
  | [], t, h, w4, w5, w6, e, ht, E, M => by
    have hte : a.length = t := by
      have := congrArg List.length e
      rw [List.length_drop] at this
      have e0 : ([] : List Nat).length = 0 := rfl
      omega
    rw [List.take_of_length_le (by omega)] at M
    have S1 : RSh h := E.sh S
    have A1 : QstR h f a := A.eq E (fun z => by rcases z.2 with y | y; omega; omega) (fun j hj z => by rcases z.2 with y | y; omega; omega)
    have if' : ix (nI f) = f := nI_clamp (by omega)
    refine v210_2 hP 0 (nI p) (nI f) (nI t) w4 w5 w6 h (dr_of S1.r47 ⟨by rw [S1.n47]; exact vp_in_nI (by omega) (by decide), fun _ => ⟨rfl, k h E M⟩, fun c => absurd ?_ c⟩)
    rw [if', A1.2.1, hte]; exact nI_le (Nat.le_refl _) (by have := A.1; omega)
  | x :: b, t, h, w4, w5, w6, e, ht, E, M => by
    have hlt : t < a.length := by
      rcases Nat.lt_or_ge t a.length with z | z
      · exact z
      · rw [List.drop_eq_nil_of_le z] at e; cases e
    have eb : a[t]? = some x := by
      have := congrArg (fun l => l[0]?) e
      simp only [List.getElem?_drop, Nat.add_zero, List.getElem?_cons_zero] at this
      exact this
    have ed : a.drop (t + 1) = b := by
      have := congrArg List.tail e
      rw [List.tail_drop] at this
      exact this
    have hal := A.1
    have S1 : RSh h := E.sh S
    have A1 : QstR h f a := A.eq E (fun z => by rcases z.2 with y | y; omega; omega) (fun j hj z => by rcases z.2 with y | y; omega; omega)
    have if' : ix (nI f) = f := nI_clamp (by omega)
    have i2 : ix (nI (32 * f + t)) = 32 * f + t := nI_clamp (by omega)
    have hx : x < 60 := ha x (List.mem_of_getElem? eb)
    have hin : ∀ y ∈ joQ l0 (a.take t), y < 60 := joQ_in hl0 (fun y hy => ha y (List.mem_of_mem_take hy))
    have hsn : joQ l0 (a.take (t + 1)) = adQ (joQ l0 (a.take t)) x := by
      rw [List.take_add_one, eb]
      show joQ l0 (a.take t ++ [x]) = _
      rw [joQ_snoc]
    refine v210_2 hP 0 (nI p) (nI f) (nI t) w4 w5 w6 h (dr_of S1.r47 ⟨by rw [S1.n47]; exact vp_in_nI (by omega) (by decide), fun c => absurd (by rw [if', A1.2.1] at c; exact c) (nI_ge hlt (by omega)), fun _ => dr_of S1.r46 ⟨by rw [q32, S1.n46]; exact vp_in_nI (by omega) (by decide), ?_⟩⟩)
    rw [q32, i2, A1.2.2 t x eb]
    have hc0 : (0 : Int32) = bi (decide (x ∈ (joQ l0 (a.take t)).take 0)) := by
      rw [List.take_zero, decide_eq_false (fun z => by cases z)]; rfl
    have hz : vI (0 : Int32) = vI (bi (decide (x ∈ (joQ l0 (a.take t)).take 0))) := congrArg vI hc0
    have hgo : P 31 [vR 11 (some 0), vI (nI p), vI (nI f), vI (nI t), vI (nI x), vI (bi (decide (x ∈ (joQ l0 (a.take t)).take 0))), vI (nI 0)] [] h := by
      refine c210i hP S1 hp M hin hx (fun z w5 w6 => ?_) (fun z w5 w6 => ?_) _ 0 (Nat.zero_add _)
      · rw [nI_1]
        refine c210 hP S hp hf A ha hl0 k b (t + 1) h _ w5 w6 ed hlt E ?_
        rw [hsn]
        unfold adQ
        rw [if_pos z]
        exact M
      · rw [nI_1]
        have hlen : (joQ l0 (a.take t)).length < 32 := by
          rcases Nat.lt_or_ge (joQ l0 (a.take t)).length 32 with y | y
          · exact y
          · exact absurd (Or.inr y) z
        refine c210 hP S hp hf A ha hl0 k b (t + 1) _ _ w5 w6 ed hlt ((E.wI _ ⟨rfl, Or.inl ⟨rfl, by omega, by omega⟩⟩).wI _ ⟨rfl, Or.inr ⟨rfl, rfl⟩⟩) ?_
        rw [hsn]
        unfold adQ
        rw [if_neg z]
        generalize joQ l0 (a.take t) = L at *
        have lA : (L ++ [x]).length = L.length + 1 := by rw [List.length_append]; rfl
        refine ⟨by omega, ?_, fun j y e2 => ?_⟩
        · rw [jI_same, lA]
        · rw [jI_a (by decide)]
          by_cases z1 : j = L.length
          · rw [z1, jI_same]
            rw [z1, List.getElem?_append_right (Nat.le_refl _), Nat.sub_self] at e2
            have := Option.some.inj e2
            rw [this]
          · rw [jI_k (by omega)]
            have hj : j < L.length := by
              have := (List.getElem?_eq_some_iff.mp e2).1
              omega
            rw [List.getElem?_append_left hj] at e2
            exact M.2.2 j y e2
    rw [← hc0] at hgo
    exact hgo
/-- joins(p, from) -/
theorem s210 {d p f : Nat} {l0 a : List Nat} {h : Hp} {K : Hp → Prop} (S : RSh h) (hp : p < 100) (hf : f < p) (M : QstR h p l0) (A : QstR h f a) (ha : ∀ x ∈ a, x < 60) (hl0 : ∀ x ∈ l0, x < 60) (k : ∀ h', EqX (XK p) h h' → QstR h' p (joQ l0 a) → K h') : CV (d + 1) 210 [vR 11 (some 0), vI (nI p), vI (nI f)] h K :=
  fun P hP => v210 hP 0 (nI p) (nI f) h (c210 hP S hp hf A ha hl0 k a 0 h un un un rfl (Nat.zero_le _) (EqX.refl _ h) M)
