/-! the class: persons are added, joined -/
def NewPr (H G : Hp) (num man : Int32) (fa mo : Option Nat) (sh mk gn : Int32) : Prop := Fr XE 2 45 H G ∧ jN G 5 = jN H 5 + 1 ∧ jN G 21 = jN H 21 + 1 ∧ (∀ t, t ≠ 5 → t ≠ 21 → jN G t = jN H t) ∧ jLen G 21 (jN H 21) = 32 ∧ jI G 5 (jN H 5) 0 = num ∧ jI G 5 (jN H 5) 1 = man ∧ jR G 5 (jN H 5) 2 = fa ∧ jR G 5 (jN H 5) 3 = mo ∧ jI G 5 (jN H 5) 4 = sh ∧ jI G 5 (jN H 5) 5 = mk ∧ jI G 5 (jN H 5) 6 = gn ∧ jR G 5 (jN H 5) 7 = none ∧ jI G 5 (jN H 5) 8 = 0 ∧ jI G 5 (jN H 5) 9 = 0 ∧ jR G 5 (jN H 5) 10 = some (jN H 21)
/-- what the two constructors leave -/
def perH (H : Hp) (num man : Int32) (fa mo : Option Nat) (sh mk' gn : Int32) : Hp := wI (wI (wI (wR (wR (wI (wI (wR (mk (mk H 5 0 13) 21 32 32) 5 (jN H 5) 10 (some (jN H 21))) 5 (jN H 5) 0 num) 5 (jN H 5) 1 man) 5 (jN H 5) 2 fa) 5 (jN H 5) 3 mo) 5 (jN H 5) 4 sh) 5 (jN H 5) 5 mk') 5 (jN H 5) 6 gn
theorem perH_new (H : Hp) (num man : Int32) (fa mo : Option Nat) (sh mk' gn : Int32) : NewPr H (perH H num man fa mo sh mk' gn) num man fa mo sh mk' gn := by
  have F : Fr XE 2 45 H (perH H num man fa mo sh mk' gn) := ((((((((((Fr.refl _ H).mk 5 0 13).mk 21 32 32).wR (some (jN H 21)) (Or.inl (Nat.le_refl _))).wI num (Or.inl (Nat.le_refl _))).wI man (Or.inl (Nat.le_refl _))).wR fa (Or.inl (Nat.le_refl _))).wR mo (Or.inl (Nat.le_refl _))).wI sh (Or.inl (Nat.le_refl _))).wI mk' (Or.inl (Nat.le_refl _))).wI gn (Or.inl (Nat.le_refl _))
  refine ⟨F, rfl, rfl, fun t h1 h2 => ?_, if_pos ⟨rfl, rfl⟩, ?_, ?_, ?_, ?_, ?_, ?_, ?_, ?_, ?_, ?_, ?_⟩
  · show (if t = 21 then jN (mk H 5 0 13) 21 + 1 else if t = 5 then jN H 5 + 1 else jN H t) = jN H t
    rw [if_neg h2, if_neg h1]
  · unfold perH
    rw [jI_k (by decide), jI_k (by decide), jI_k (by decide)]
    show jI (wI (wI (wR (mk (mk H 5 0 13) 21 32 32) 5 (jN H 5) 10 (some (jN H 21))) 5 (jN H 5) 0 num) 5 (jN H 5) 1 man) 5 (jN H 5) 0 = num
    rw [jI_k (by decide), jI_same]
  · unfold perH
    rw [jI_k (by decide), jI_k (by decide), jI_k (by decide)]
    show jI (wI (wI (wR (mk (mk H 5 0 13) 21 32 32) 5 (jN H 5) 10 (some (jN H 21))) 5 (jN H 5) 0 num) 5 (jN H 5) 1 man) 5 (jN H 5) 1 = man
    rw [jI_same]
  · show jR (wR (wR (wI (wI (wR (mk (mk H 5 0 13) 21 32 32) 5 (jN H 5) 10 (some (jN H 21))) 5 (jN H 5) 0 num) 5 (jN H 5) 1 man) 5 (jN H 5) 2 fa) 5 (jN H 5) 3 mo) 5 (jN H 5) 2 = fa
    rw [jR_k (by decide), jR_same]
  · show jR (wR (wR (wI (wI (wR (mk (mk H 5 0 13) 21 32 32) 5 (jN H 5) 10 (some (jN H 21))) 5 (jN H 5) 0 num) 5 (jN H 5) 1 man) 5 (jN H 5) 2 fa) 5 (jN H 5) 3 mo) 5 (jN H 5) 3 = mo
    rw [jR_same]
  · unfold perH
    rw [jI_k (by decide), jI_k (by decide), jI_same]
  · unfold perH
    rw [jI_k (by decide), jI_same]
  · unfold perH
    rw [jI_same]
  · show jR (wR (wR (wR (mk (mk H 5 0 13) 21 32 32) 5 (jN H 5) 10 (some (jN H 21))) 5 (jN H 5) 2 fa) 5 (jN H 5) 3 mo) 5 (jN H 5) 7 = none
    rw [jR_k (by decide), jR_k (by decide), jR_k (by decide), mkT_R (by decide)]
    exact mk_R _ _ _ _ _
  · unfold perH
    rw [jI_k (by decide), jI_k (by decide), jI_k (by decide)]
    show jI (wI (wI (wR (mk (mk H 5 0 13) 21 32 32) 5 (jN H 5) 10 (some (jN H 21))) 5 (jN H 5) 0 num) 5 (jN H 5) 1 man) 5 (jN H 5) 8 = 0
    rw [jI_k (by decide), jI_k (by decide)]
    show jI (mk (mk H 5 0 13) 21 32 32) 5 (jN H 5) 8 = 0
    rw [mkT_I (by decide)]
    exact mk_I _ _ _ _ _
  · unfold perH
    rw [jI_k (by decide), jI_k (by decide), jI_k (by decide)]
    show jI (wI (wI (wR (mk (mk H 5 0 13) 21 32 32) 5 (jN H 5) 10 (some (jN H 21))) 5 (jN H 5) 0 num) 5 (jN H 5) 1 man) 5 (jN H 5) 9 = 0
    rw [jI_k (by decide), jI_k (by decide)]
    show jI (mk (mk H 5 0 13) 21 32 32) 5 (jN H 5) 9 = 0
    rw [mkT_I (by decide)]
    exact mk_I _ _ _ _ _
  · show jR (wR (wR (wR (mk (mk H 5 0 13) 21 32 32) 5 (jN H 5) 10 (some (jN H 21))) 5 (jN H 5) 2 fa) 5 (jN H 5) 3 mo) 5 (jN H 5) 10 = some (jN H 21)
    rw [jR_k (by decide), jR_k (by decide), jR_same]
theorem bi01 (b : Bool) : bi b = 0 ∨ bi b = 1 := by cases b <;> first | exact Or.inl rfl | exact Or.inr rfl
/-- new Person(number, man, shield) -/
theorem s39 {d : Nat} {num sh : Int32} {b : Bool} {H : Hp} {K : Hp → Prop} (k : K (perH H num (bi b) none none sh 0 0)) : CV (d + 1) 39 [vR 5 (some (jN H 5)), vI num, vI (bi b), vI sh] (mk H 5 0 13) K := by
  intro P hP
  refine v39 hP (jN H 5) num (bi b) sh (mk H 5 0 13) (fun a1 h2 ea eh => ?_)
  subst ea eh
  exact ⟨bi01 b, rfl, k⟩
/-- new Person(number, man, father, mother) -/
theorem s38 {d f : Nat} {num : Int32} {mo : Option Nat} {b : Bool} {H : Hp} {K : Hp → Prop} (hf : f < jN H 5) (k : K (perH H num (bi b) (some f) mo (-1) (if b = true then jI H 5 f 8 else 0) (jI H 5 f 6 + 1))) : CV (d + 1) 38 [vR 5 (some (jN H 5)), vI num, vI (bi b), vR 5 (some f), vR 5 mo] (mk H 5 0 13) K := by
  intro P hP
  refine v38 hP (jN H 5) num (bi b) (some f) mo (mk H 5 0 13) (fun a1 h2 ea eh => ?_)
  subst ea eh
  have old : ∀ (g : Hp) (j : Nat), (∀ i, jI g 5 f i = jI H 5 f i) → jI g 5 f j = jI H 5 f j := fun g j e => e j
  have e0 : ∀ i, jI (wI (wR (wR (wI (wI (wR (mk (mk H 5 0 13) 21 32 32) 5 (jN H 5) 10 (some (jN (mk H 5 0 13) 21))) 5 (jN H 5) 0 num) 5 (jN H 5) 1 (bi b)) 5 (jN H 5) 2 (some f)) 5 (jN H 5) 3 mo) 5 (jN H 5) 4 (-1)) 5 f i = jI H 5 f i := fun i => by
    rw [jI_a (by omega)]
    show jI (wI (wI (wR (mk (mk H 5 0 13) 21 32 32) 5 (jN H 5) 10 (some (jN (mk H 5 0 13) 21))) 5 (jN H 5) 0 num) 5 (jN H 5) 1 (bi b)) 5 f i = _
    rw [jI_a (by omega), jI_a (by omega)]
    show jI (mk (mk H 5 0 13) 21 32 32) 5 f i = _
    rw [mkT_I (by decide), mkO_I hf]
  refine ⟨bi01 b, fun c h4 e4 => ⟨rfl, ?_⟩, fun c h6 e6 => ⟨rfl, ?_⟩⟩
  · have hb : b = false := by
      cases b with
      | false => rfl
      | true => exact absurd c (by decide)
    subst hb
    rw [jI_a (by omega), e0 6] at e4
    rw [e4]
    exact k
  · have hb : b = true := by
      cases b with
      | true => rfl
      | false => exact absurd rfl c
    subst hb
    rw [e0 8] at e6
    have e66 : jI h6 5 f 6 = jI H 5 f 6 := by rw [e6, jI_a (by omega), e0 6]
    rw [e66, e6]
    exact k
section
variable {n ns g : Nat} {mn : Nat → Bool} {pr : Nat → Option (Nat × Nat)} {sd : Nat → Nat} {mr : Nat → Option Nat} {qa : Nat → Nat}
theorem sonN_0 {p : Nat} : ∀ {m : Nat}, (∀ q, q < m → faO pr q ≠ some p) → sonN mn pr p m = 0
  | 0, _ => rfl
  | m + 1, h => by
    unfold sonN
    rw [sonN_0 (fun q hq => h q (by omega)), if_neg (fun z => h m (by omega) z.2)]
theorem kidN_0 {p : Nat} : ∀ {m : Nat}, (∀ q, q < m → faO pr q ≠ some p ∧ moO pr q ≠ some p) → kidN pr p m = 0
  | 0, _ => rfl
  | m + 1, h => by
    unfold kidN
    rw [kidN_0 (fun q hq => h q (by omega)), if_neg (fun z => by rcases z with z | z; exact (h m (by omega)).1 z; exact (h m (by omega)).2 z)]
theorem mo_v (V : PsV n mn pr sd mr ns) {i m : Nat} (hi : i < n) (e : moO pr i = some m) : m < i ∧ mn m = false := by
  unfold moO at e
  cases h : pr i with
  | none => rw [h] at e; cases e
  | some q =>
    obtain ⟨a, b⟩ := q
    rw [h] at e
    have e2 : b = m := Option.some.inj e
    have v := V.2.2.1 i hi a b h
    rw [← e2]
    exact ⟨v.2.1, v.2.2.2.1⟩
theorem ite_nI (c : Prop) [Decidable c] (a : Nat) : nI a + (if c then 1 else 0) = nI (a + (if c then 1 else 0)) := by
  by_cases z : c
  · rw [if_pos z, if_pos z, nI_1]
  · rw [if_neg z, if_neg z]
    exact Int32.add_zero _
/-- one person more -/
theorem RegC.add {H G G' : Hp} {b : Bool} {x : Option (Nat × Nat)} {s : Nat} {sh mk gn : Int32} (V : PsV n mn pr sd mr ns) (R : RegC H n mn pr sd mr qa g) (N : NewPr H G (nI n) (bi b) (x.map Prod.fst) (x.map Prod.snd) sh mk gn) (h31 : 31 ≤ jN H 21) (hx : ∀ f m, x = some (f, m) → f < n ∧ m < n) (hsd : x = none → sh = nI s) (hmk : mk = nI (mkN (upf mn n b) (upf pr n x) n)) (hgn : gn = nI (gnF (upf pr n x) 100 n)) (J1 : jN G' = jN G) (J2 : jLen G' = jLen G) (J3 : ∀ i, jR G' 35 0 i = if i = n then some n else jR G 35 0 i) (J4 : ∀ i k, jR G' 5 i k = jR G 5 i k) (J4b : jR G' 6 0 0 = jR G 6 0 0) (J5 : jI G' 6 0 1 = nI (n + 1)) (J6 : jI G' 6 0 2 = jI G 6 0 2) (J7 : ∀ i k, k ≠ 8 → k ≠ 9 → jI G' 5 i k = jI G 5 i k) (J8 : ∀ i, jI G' 5 i 8 = jI G 5 i 8 + (if b = true ∧ x.map Prod.fst = some i then 1 else 0)) (J9 : ∀ i, jI G' 5 i 9 = jI G 5 i 9 + (if x.map Prod.fst = some i ∨ x.map Prod.snd = some i then 1 else 0)) : RegC G' (n + 1) (upf mn n b) (upf pr n x) (upf sd n s) (upf mr n none) (upf qa n (jN H 21)) g := by
  obtain ⟨⟨r0, r1, r2, r3, r4, r5, r6, r7, r8, r9⟩, g1, g2, g3⟩ := R
  obtain ⟨⟨f1, f2, f3, f4, f5⟩, n1, n2, n3, n4, n5, n6, n7, n8, n9, n10, n11, n12, n13, n14, n15⟩ := N
  rw [r3] at n1 n5 n6 n7 n8 n9 n10 n11 n12 n13 n14 n15
  have fa0 : faO (upf pr n x) n = x.map Prod.fst := by unfold faO; rw [upf_eq]
  have mo0 : moO (upf pr n x) n = x.map Prod.snd := by unfold moO; rw [upf_eq]
  have oldI : ∀ i, i < n → ∀ k, jI G 5 i k = jI H 5 i k := fun i hi k => (f3 5 i k (by rw [r3]; exact hi) (fun z => z)).1
  have oldR : ∀ i, i < n → ∀ k, jR G 5 i k = jR H 5 i k := fun i hi k => (f3 5 i k (by rw [r3]; exact hi) (fun z => z)).2.1
  have sN : ∀ i, sonN (upf mn n b) (upf pr n x) i (n + 1) = sonN mn pr i n + (if b = true ∧ x.map Prod.fst = some i then 1 else 0) := fun i => by
    show sonN (upf mn n b) (upf pr n x) i n + (if upf mn n b n = true ∧ faO (upf pr n x) n = some i then 1 else 0) = _
    rw [sonN_up i n (Nat.le_refl _), upf_eq, fa0]
  have kN : ∀ i, kidN (upf pr n x) i (n + 1) = kidN pr i n + (if x.map Prod.fst = some i ∨ x.map Prod.snd = some i then 1 else 0) := fun i => by
    show kidN (upf pr n x) i n + (if faO (upf pr n x) n = some i ∨ moO (upf pr n x) n = some i then 1 else 0) = _
    rw [kidN_up i n (Nat.le_refl _), fa0, mo0]
  refine ⟨⟨?_, ?_, J5, ?_, fun i hi => ?_, fun i hi => ?_, fun i hi => ?_, fun i j hij hj => ?_, ?_, ?_⟩, ?_, by omega, fun z => by omega⟩
  · rw [J4b, (f3 6 0 0 r8 (fun z => z)).2.1]; exact r0
  · rw [J2, f2 35 0 r9]; exact r1
  · rw [J1]; exact n1
  · rw [J3]
    by_cases z : i = n
    · rw [if_pos z, z]
    · rw [if_neg z, (f3 35 0 i r9 (fun z => z)).2.1]
      exact r4 i (by omega)
  · by_cases z : i = n
    · subst z
      rw [upf_eq]
      refine ⟨?_, ?_, ?_, ?_, fun e => ?_, ?_, ?_, ?_, ?_, ?_, ?_, ?_⟩
      · rw [J7 _ _ (by decide) (by decide)]; exact n5
      · rw [J7 _ _ (by decide) (by decide), upf_eq]; exact n6
      · rw [J4, fa0]; exact n7
      · rw [J4, mo0]; exact n8
      · rw [J7 _ _ (by decide) (by decide), upf_eq]
        rw [upf_eq] at e
        rw [n9]; exact hsd e
      · rw [J7 _ _ (by decide) (by decide), n10]; exact hmk
      · rw [J7 _ _ (by decide) (by decide), n11]; exact hgn
      · rw [J4, upf_eq]; exact n12
      · rw [J8, n13, sN, sonN_0 (fun q hq e => by have := (fa_v V hq e).1; omega), ← ite_nI]; rfl
      · rw [J9, n14, kN, kidN_0 (fun q hq => ⟨fun e => by have := (fa_v V hq e).1; omega, fun e => by have := (mo_v V hq e).1; omega⟩), ← ite_nI]; rfl
      · rw [J4]; exact n15
      · rw [J2]; exact n4
    · have hlt : i < n := by omega
      obtain ⟨q0, q1, q2, q3, q4, q5, q6, q7, q8, q9, q10, q11⟩ := r5 i hlt
      rw [upf_ne z]
      refine ⟨?_, ?_, ?_, ?_, fun e => ?_, ?_, ?_, ?_, ?_, ?_, ?_, ?_⟩
      · rw [J7 _ _ (by decide) (by decide), oldI i hlt]; exact q0
      · rw [J7 _ _ (by decide) (by decide), oldI i hlt, upf_ne z]; exact q1
      · rw [J4, oldR i hlt, faO_up z]; exact q2
      · rw [J4, oldR i hlt, moO_up z]; exact q3
      · rw [J7 _ _ (by decide) (by decide), oldI i hlt, upf_ne z]
        rw [upf_ne z] at e
        exact q4 e
      · rw [J7 _ _ (by decide) (by decide), oldI i hlt, mkN_up hlt]; exact q5
      · rw [J7 _ _ (by decide) (by decide), oldI i hlt, gnF_up (fun j q hj e => (fa_v V hj e).1) 100 i hlt]; exact q6
      · rw [J4, oldR i hlt, upf_ne z]; exact q7
      · rw [J8, oldI i hlt, q8, sN, ← ite_nI]
      · rw [J9, oldI i hlt, q9, kN, ← ite_nI]
      · rw [J4, oldR i hlt]; exact q10
      · rw [J2, f2 21 (qa i) (r6 i hlt).2]; exact q11
  · rw [J1, n2]
    by_cases z : i = n
    · rw [z, upf_eq]; omega
    · rw [upf_ne z]
      have := r6 i (by omega)
      omega
  · by_cases z : j = n
    · rw [z, upf_eq, upf_ne (by omega)]
      exact (r6 i (by omega)).2
    · rw [upf_ne z, upf_ne (by omega)]
      exact r7 i j hij (by omega)
  · rw [J1]
    have := f1 6
    omega
  · rw [J1]
    have := f1 35
    omega
  · rw [J6, (f3 6 0 2 r8 (fun z => z)).1]; exact g1
theorem PsV.add {b : Bool} {x : Option (Nat × Nat)} {s : Nat} (V : PsV n mn pr sd mr ns) (hn : n < 100) (hx : ∀ f m, x = some (f, m) → f < n ∧ m < n ∧ mn f = true ∧ mn m = false ∧ mr f = some m) (hs : x = none → s < ns) : PsV (n + 1) (upf mn n b) (upf pr n x) (upf sd n s) (upf mr n none) ns := by
  obtain ⟨v1, v2, v3, v4, v5⟩ := V
  refine ⟨by omega, v2, fun i hi f m e => ?_, fun i hi e => ?_, fun i hi j e => ?_⟩
  · by_cases z : i = n
    · rw [z, upf_eq] at e
      obtain ⟨a1, a2, a3, a4, a5⟩ := hx f m e
      rw [upf_ne (by omega), upf_ne (by omega), upf_ne (by omega)]
      exact ⟨by omega, by omega, a3, a4, a5⟩
    · rw [upf_ne z] at e
      obtain ⟨a1, a2, a3, a4, a5⟩ := v3 i (by omega) f m e
      rw [upf_ne (by omega), upf_ne (by omega), upf_ne (by omega)]
      exact ⟨a1, a2, a3, a4, a5⟩
  · by_cases z : i = n
    · rw [z, upf_eq] at e
      rw [z, upf_eq]
      exact hs e
    · rw [upf_ne z] at e
      rw [upf_ne z]
      exact v4 i (by omega) e
  · by_cases z : i = n
    · rw [z, upf_eq] at e; cases e
    · rw [upf_ne z] at e
      obtain ⟨a1, a2, a3⟩ := v5 i (by omega) j e
      rw [upf_ne (by omega), upf_ne (by omega), upf_ne z]
      exact ⟨by omega, a2, a3⟩
end
