/-! the class's addFounder, addChild, join -/
def XP : Nat → Nat → Nat → Prop := fun t a k => (t = 35 ∧ a = 0) ∨ (t = 6 ∧ a = 0 ∧ k = 1) ∨ t = 5
theorem Fr.xe {c z : Nat} {H G : Hp} (F : Fr XE c z H G) (X : Nat → Nat → Nat → Prop) : Fr X c z H G := by
  obtain ⟨f1, f2, f3, f4, f5⟩ := F
  exact ⟨f1, f2, fun t a k h1 _ => f3 t a k h1 (fun z => z), f4, f5⟩
theorem nI_s1 (n : Nat) : nI (n + 1) - 1 = nI n := nI_sub (a := n) (b := 1)
/-- the number x among the first n -/
def asP (n : Nat) (x : Int32) : Option Nat := if ¬ x < 0 ∧ ¬ nI n ≤ x then some (ix x) else none
theorem asP_s {n j : Nat} {x : Int32} (hn : n < 2 ^ 30) (hj : j < n) (e : x = nI j) : asP n x = some j := by
  unfold asP
  rw [e, if_pos ⟨nI_pos (by omega), nI_ge hj (by omega)⟩]
  exact congrArg some (nI_clamp (by omega))
theorem asP_n {n : Nat} {x : Int32} (hn : n < 2 ^ 30) (h : ∀ j, j < n → ¬ x = nI j) : asP n x = none := by
  unfold asP
  refine if_neg (fun z => ?_)
  obtain ⟨j, hj, e⟩ := nI_of z.1
  refine h j ?_ e
  rcases Nat.lt_or_ge j n with y | y
  · exact y
  · exact absurd (by rw [e]; exact nI_le y hj) z.2
theorem asP_v {n j : Nat} {x : Int32} (hn : n < 2 ^ 30) (e : asP n x = some j) : j < n ∧ x = nI j := by
  unfold asP at e
  by_cases z : ¬ x < 0 ∧ ¬ nI n ≤ x
  · rw [if_pos z] at e
    obtain ⟨i, hi, ei⟩ := nI_of z.1
    have e2 : ix x = j := Option.some.inj e
    have e3 : ix x = i := by rw [ei]; exact nI_clamp hi
    have hij : i = j := by omega
    subst hij
    refine ⟨?_, ei⟩
    rcases Nat.lt_or_ge i n with y | y
    · exact y
    · exact absurd (by rw [ei]; exact nI_le y hi) z.2
  · rw [if_neg z] at e; cases e
theorem asP_no {n : Nat} {x : Int32} (hn : n < 2 ^ 30) (e : asP n x = none) : ∀ j, j < n → ¬ x = nI j := fun j hj z => by
  rw [asP_s hn hj z] at e; cases e
section
variable {n ns g : Nat} {mn : Nat → Bool} {pr : Nat → Option (Nat × Nat)} {sd : Nat → Nat} {mr : Nat → Option Nat} {qa : Nat → Nat}
/-- addFounder(man, shield) -/
theorem s48 {d s : Nat} {b : Bool} {h : Hp} {K : Int32 → Hp → Prop} (V : PsV n mn pr sd mr ns) (R : RegC h n mn pr sd mr qa g) (h31 : 31 ≤ jN h 21) (k0 : ¬ n < 100 → K (-1) h) (k1 : n < 100 → ∀ h', Fr XP 2 45 h h' → RegC h' (n + 1) (upf mn n b) (upf pr n none) (upf sd n s) (upf mr n none) (upf qa n (jN h 21)) g → K (nI n) h') : CI (d + 2) 48 [vR 6 (some 0), vI (bi b), vI (nI s)] h K := by
  intro P hP
  have hn := V.1
  obtain ⟨r0, r1, r2, r3, r4, r5, r6, r7, r8, r9⟩ := id R.1
  have i1 : ix (nI n) = n := nI_clamp (by omega)
  refine v48 hP 0 (bi b) (nI s) h ⟨fun c a1 h2 ea eh => ?_, fun c => ⟨_, rfl, k0 (fun z => c (by rw [r2]; exact nI_lt (b := 100) z (by decide)))⟩⟩
  have hlt : n < 100 := by
    rw [r2] at c
    rcases Nat.lt_or_ge n 100 with z | z
    · exact z
    · exact absurd c (nI_nlt (b := 100) z (by omega))
  subst ea eh
  rw [mkT_I (by decide), r2]
  refine s39 ?_
  have N := perH_new h (nI n) (bi b) none none (nI s) 0 0
  generalize perH h (nI n) (bi b) none none (nI s) 0 0 = G at N
  have g35 : jLen G 35 0 = 100 := by rw [N.1.2.1 35 0 r9]; exact r1
  have g61 : jI G 6 0 1 = nI n := by rw [(N.1.2.2.1 6 0 1 r8 (fun z => z)).1]; exact r2
  refine dr_of r0 ⟨by rw [g35]; exact vp_in_nI hlt (by decide), ?_⟩
  rw [i1, r3]
  have e1 : jI (wR G 35 0 n (some n)) 6 0 1 = nI n := g61
  rw [e1, nI_1, jI_same, nI_s1]
  refine ⟨_, rfl, k1 hlt _ (((N.1.xe XP).wR (some n) (Or.inr (Or.inl ⟨rfl, rfl⟩))).wI _ (Or.inr (Or.inr (Or.inl ⟨rfl, rfl, rfl⟩)))) ?_⟩
  refine RegC.add (x := none) V R N h31 (fun f m z => (by cases z)) (fun _ => rfl) ?_ ?_ rfl rfl (fun i => ?_) (fun i k => jR_t (by decide)) (jR_t (by decide)) (jI_same ..) (jI_k (by decide)) (fun i k _ _ => jI_t (by decide)) (fun i => ?_) (fun i => ?_)
  · unfold mkN
    have : faO (upf pr n none) n = none := by unfold faO; rw [upf_eq]; rfl
    rw [this]
    split <;> rfl
  · unfold gnF
    have : faO (upf pr n none) n = none := by unfold faO; rw [upf_eq]; rfl
    rw [this]
    rfl
  · show up3 (jR G) 35 0 n (some n) 35 0 i = _
    unfold up3
    by_cases z : i = n
    · rw [if_pos ⟨rfl, rfl, z⟩, if_pos z]
    · rw [if_neg (fun y => z y.2.2), if_neg z]
  · rw [jI_t (by decide), if_neg (fun z => by cases z.2)]
    exact (Int32.add_zero _).symm
  · rw [jI_t (by decide), if_neg (fun z => by rcases z with z | z; cases z; cases z)]
    exact (Int32.add_zero _).symm
/-- the parents told, if they can be -/
def chO (n : Nat) (mn : Nat → Bool) (mr : Nat → Option Nat) (x y : Int32) : Option (Nat × Nat) := match asP n x, asP n y with
  | some f, some m => if n < 100 ∧ mn f = true ∧ mr f = some m then some (f, m) else none
  | _, _ => none
theorem chO_n1 {x y : Int32} (e : asP n x = none) : chO n mn mr x y = none := by unfold chO; rw [e]
theorem chO_n2 {x y : Int32} (e : asP n y = none) : chO n mn mr x y = none := by
  unfold chO; rw [e]
  cases asP n x <;> rfl
theorem chO_2 {x y : Int32} {f m : Nat} (e1 : asP n x = some f) (e2 : asP n y = some m) : chO n mn mr x y = if n < 100 ∧ mn f = true ∧ mr f = some m then some (f, m) else none := by
  unfold chO; rw [e1, e2]
/-- addChild(man, father, mother) -/
theorem s46 {d : Nat} {b : Bool} {x y : Int32} {h : Hp} {K : Int32 → Hp → Prop} (V : PsV n mn pr sd mr ns) (R : RegC h n mn pr sd mr qa g) (h31 : 31 ≤ jN h 21) (k0 : chO n mn mr x y = none → K (-1) h) (k1 : ∀ f m, chO n mn mr x y = some (f, m) → n < 100 → f < n → m < n → mn f = true → mr f = some m → ∀ h', Fr XP 2 45 h h' → RegC h' (n + 1) (upf mn n b) (upf pr n (some (f, m))) (upf sd n 0) (upf mr n none) (upf qa n (jN h 21)) g → K (nI n) h') : CI (d + 2) 46 [vR 6 (some 0), vI (bi b), vI x, vI y] h K := by
  intro P hP
  have hn := V.1
  obtain ⟨r0, r1, r2, r3, r4, r5, r6, r7, r8, r9⟩ := id R.1
  have i1 : ix (nI n) = n := nI_clamp (by omega)
  have h30 : n < 2 ^ 30 := by omega
  refine v46 hP 0 (bi b) x y h (s47 V.1 R.1 (fun hno => s47 V.1 R.1 (fun _ => ?_) (fun m hm em => ?_)) (fun f hf ef => s47 V.1 R.1 (fun hno => ?_) (fun m hm em => ?_)))
  · have e0 : chO n mn mr x y = none := chO_n1 (asP_n h30 hno)
    exact ⟨fun _ => ⟨_, rfl, k0 e0⟩, fun _ => ⟨fun _ => ⟨_, rfl, k0 e0⟩, fun z => absurd rfl z⟩⟩
  · have e0 : chO n mn mr x y = none := chO_n1 (asP_n h30 hno)
    exact ⟨fun _ => ⟨_, rfl, k0 e0⟩, fun _ => ⟨fun _ => ⟨_, rfl, k0 e0⟩, fun z => absurd rfl z⟩⟩
  · have e0 : chO n mn mr x y = none := chO_n2 (asP_n h30 hno)
    exact ⟨fun _ => ⟨_, rfl, k0 e0⟩, fun _ => ⟨(fun z => by cases z), fun _ => ⟨fun z => absurd rfl z, fun _ => ⟨_, rfl, k0 e0⟩⟩⟩⟩
  · have e0 : chO n mn mr x y = if n < 100 ∧ mn f = true ∧ mr f = some m then some (f, m) else none := chO_2 (asP_s h30 hf ef) (asP_s h30 hm em)
    have qf := r5 f hf
    refine ⟨fun c => ⟨_, rfl, k0 ?_⟩, fun c => ⟨(fun z => by cases z), fun _ => ⟨fun _ => ⟨fun c2 => ⟨_, rfl, k0 ?_⟩, fun c2 => ⟨fun c3 a7 h8 e7 e8 => ?_, fun c3 => ⟨_, rfl, k0 ?_⟩⟩⟩, fun z => absurd (fun y => by cases y) z⟩⟩⟩
    · rw [e0, if_neg (fun z => ?_)]
      rw [r2] at c
      exact nI_ge (b := 100) z.1 (by decide) c
    · rw [e0, if_neg (fun z => ?_)]
      rw [qf.2.1, z.2.1] at c2
      exact absurd c2 (by decide)
    · have hlt : n < 100 := by
        rw [r2] at c
        rcases Nat.lt_or_ge n 100 with z | z
        · exact z
        · exact absurd (nI_le (a := 100) z (by omega)) c
      have hmf : mn f = true := by
        cases hb : mn f with
        | true => rfl
        | false => rw [qf.2.1, hb] at c2; exact absurd rfl c2
      have hrf : mr f = some m := by rw [← qf.2.2.2.2.2.2.2.1]; exact c3
      rw [if_pos ⟨hlt, hmf, hrf⟩] at e0
      have hmm := V.2.2.2.2 f hf m hrf
      have hfm : m ≠ f := fun z => by rw [z, hmf] at hmm; exact absurd hmm.2.2 (by decide)
      subst e7 e8
      rw [mkT_I (by decide), r2]
      refine s38 (by rw [r3]; exact hf) ?_
      have N := perH_new h (nI n) (bi b) (some f) (some m) (-1) (if b = true then jI h 5 f 8 else 0) (jI h 5 f 6 + 1)
      generalize perH h (nI n) (bi b) (some f) (some m) (-1) (if b = true then jI h 5 f 8 else 0) (jI h 5 f 6 + 1) = G at N
      have g35 : jLen G 35 0 = 100 := by rw [N.1.2.1 35 0 r9]; exact r1
      have g61 : jI G 6 0 1 = nI n := by rw [(N.1.2.2.1 6 0 1 r8 (fun z => z)).1]; exact r2
      refine dr_of r0 ⟨by rw [g35]; exact vp_in_nI hlt (by decide), fun h13 e13 => ?_⟩
      rw [i1, r3] at e13
      have e1 : jI (wR G 35 0 n (some n)) 6 0 1 = nI n := g61
      rw [e1, nI_1] at e13
      have hmk : (if b = true then jI h 5 f 8 else 0) = nI (mkN (upf mn n b) (upf pr n (some (f, m))) n) := by
        unfold mkN
        have e3 : faO (upf pr n (some (f, m))) n = some f := by unfold faO; rw [upf_eq]; rfl
        rw [e3, upf_eq]
        by_cases hb : b = true
        · rw [if_pos hb, if_pos hb, qf.2.2.2.2.2.2.2.2.1]
          dsimp only
          rw [sonN_up f n (Nat.le_refl _)]
        · rw [if_neg hb, if_neg hb]
          rfl
      have hgn : jI h 5 f 6 + 1 = nI (gnF (upf pr n (some (f, m))) 100 n) := by
        have e3 : faO (upf pr n (some (f, m))) n = some f := by unfold faO; rw [upf_eq]; rfl
        have e4 : gnF (upf pr n (some (f, m))) 100 n = gnF (upf pr n (some (f, m))) 99 f + 1 := by
          show (match faO (upf pr n (some (f, m))) n with
            | none => 0
            | some q => gnF (upf pr n (some (f, m))) 99 q + 1) = _
          rw [e3]
        rw [e4, gnF_up (fun j q hj e => (fa_v V hj e).1) 99 f hf, gnF_fuel V (f := 99) (g := 100) hf (by omega) (by omega), qf.2.2.2.2.2.2.1, nI_1]
      have F1 : Fr XP 2 45 h (wI (wR G 35 0 n (some n)) 6 0 1 (nI (n + 1))) := ((N.1.xe XP).wR (some n) (Or.inr (Or.inl ⟨rfl, rfl⟩))).wI _ (Or.inr (Or.inr (Or.inl ⟨rfl, rfl, rfl⟩)))
      have o1 : ∀ i k, jI (wI (wR G 35 0 n (some n)) 6 0 1 (nI (n + 1))) 5 i k = jI G 5 i k := fun i k => jI_t (by decide)
      have R3 : ∀ i, jR (wI (wR G 35 0 n (some n)) 6 0 1 (nI (n + 1))) 35 0 i = if i = n then some n else jR G 35 0 i := fun i => by
        show up3 (jR G) 35 0 n (some n) 35 0 i = _
        unfold up3
        by_cases z : i = n
        · rw [if_pos ⟨rfl, rfl, z⟩, if_pos z]
        · rw [if_neg (fun y => z y.2.2), if_neg z]
      have R4 : ∀ i k, jR (wI (wR G 35 0 n (some n)) 6 0 1 (nI (n + 1))) 5 i k = jR G 5 i k := fun i k => jR_t (by decide)
      have R5 : jR (wI (wR G 35 0 n (some n)) 6 0 1 (nI (n + 1))) 6 0 0 = jR G 6 0 0 := jR_t (by decide)
      have R6 : jI (wI (wR G 35 0 n (some n)) 6 0 1 (nI (n + 1))) 6 0 1 = nI (n + 1) := jI_same ..
      have R7 : jI (wI (wR G 35 0 n (some n)) 6 0 1 (nI (n + 1))) 6 0 2 = jI G 6 0 2 := jI_k (by decide)
      have R8 : jN (wI (wR G 35 0 n (some n)) 6 0 1 (nI (n + 1))) = jN G := rfl
      have R9 : jLen (wI (wR G 35 0 n (some n)) 6 0 1 (nI (n + 1))) = jLen G := rfl
      generalize wI (wR G 35 0 n (some n)) 6 0 1 (nI (n + 1)) = G1 at *
      rw [o1] at e13
      subst e13
      refine dr_of rfl (dr_of rfl ?_)
      rw [jI_a hfm, o1]
      have j9 : ∀ i, jI (wI (wI G1 5 f 9 (jI G 5 f 9 + 1)) 5 m 9 (jI G 5 m 9 + 1)) 5 i 9 = jI G 5 i 9 + (if (some (f, m)).map Prod.fst = some i ∨ (some (f, m)).map Prod.snd = some i then 1 else 0) := fun i => by
        by_cases z1 : i = m
        · subst z1
          rw [jI_same, if_pos (show Option.map Prod.fst (some (f, i)) = some i ∨ Option.map Prod.snd (some (f, i)) = some i from Or.inr rfl)]
        · rw [jI_a z1]
          by_cases z2 : i = f
          · subst z2
            rw [jI_same, if_pos (show Option.map Prod.fst (some (i, m)) = some i ∨ Option.map Prod.snd (some (i, m)) = some i from Or.inl rfl)]
          · rw [jI_a z2, o1, if_neg (fun z => by rcases z with z | z; exact z2 (Option.some.inj z).symm; exact z1 (Option.some.inj z).symm)]
            exact (Int32.add_zero _).symm
      have F2 : Fr XP 2 45 h (wI (wI G1 5 f 9 (jI G 5 f 9 + 1)) 5 m 9 (jI G 5 m 9 + 1)) := (F1.wI _ (Or.inr (Or.inr (Or.inr rfl)))).wI _ (Or.inr (Or.inr (Or.inr rfl)))
      have a61 : jI (wI (wI G1 5 f 9 (jI G 5 f 9 + 1)) 5 m 9 (jI G 5 m 9 + 1)) 6 0 1 = nI (n + 1) := by rw [jI_t (by decide), jI_t (by decide)]; exact R6
      refine ⟨fun cb => ?_, fun cb => ?_⟩
      · have hb : b = false := by
          cases b with
          | false => rfl
          | true => exact absurd cb (by decide)
        subst hb
        rw [a61, nI_s1]
        refine ⟨_, rfl, k1 f m e0 hlt hf hm hmf hrf _ F2 ?_⟩
        refine RegC.add (x := some (f, m)) V R N h31 (fun f' m' z => by cases z; exact ⟨hf, hm⟩) (fun z => by cases z) hmk hgn R8 R9 R3 R4 R5 a61 ?_ (fun i k z8 z9 => ?_) (fun i => ?_) j9
        · rw [jI_t (by decide), jI_t (by decide)]; exact R7
        · rw [jI_k z9, jI_k z9]; exact o1 i k
        · rw [jI_k (by decide), jI_k (by decide), o1, if_neg (fun z => by cases z.1)]
          exact (Int32.add_zero _).symm
      · have hb : b = true := by
          cases b with
          | true => rfl
          | false => exact absurd rfl cb
        subst hb
        have a62 : ∀ v, jI (wI (wI (wI G1 5 f 9 (jI G 5 f 9 + 1)) 5 m 9 (jI G 5 m 9 + 1)) 5 f 8 v) 6 0 1 = nI (n + 1) := fun v => by rw [jI_t (by decide)]; exact a61
        have e8 : jI (wI (wI G1 5 f 9 (jI G 5 f 9 + 1)) 5 m 9 (jI G 5 m 9 + 1)) 5 f 8 = jI G 5 f 8 := by rw [jI_k (by decide), jI_k (by decide)]; exact o1 f 8
        refine dr_of rfl (dr_of rfl ?_)
        rw [a62, nI_s1, e8]
        refine ⟨_, rfl, k1 f m e0 hlt hf hm hmf hrf _ (F2.wI _ (Or.inr (Or.inr (Or.inr rfl)))) ?_⟩
        refine RegC.add (x := some (f, m)) V R N h31 (fun f' m' z => by cases z; exact ⟨hf, hm⟩) (fun z => by cases z) hmk hgn R8 R9 R3 R4 R5 (a62 _) ?_ (fun i k z8 z9 => ?_) (fun i => ?_) (fun i => ?_)
        · rw [jI_t (by decide), jI_t (by decide), jI_t (by decide)]; exact R7
        · rw [jI_k z8, jI_k z9, jI_k z9]; exact o1 i k
        · by_cases z : i = f
          · subst z
            rw [jI_same, if_pos (show true = true ∧ Option.map Prod.fst (some (i, m)) = some i from ⟨rfl, rfl⟩)]
          · rw [jI_a z, jI_k (by decide), jI_k (by decide), o1, if_neg (fun y => z (Option.some.inj y.2).symm)]
            exact (Int32.add_zero _).symm
        · rw [jI_k (by decide)]
          exact j9 i
    · rw [e0, if_neg (fun z => ?_)]
      rw [qf.2.2.2.2.2.2.2.1] at c3
      exact c3 z.2.2
/-- the two that can marry -/
def jnO (n : Nat) (mn : Nat → Bool) (mr : Nat → Option Nat) (x y : Int32) : Option (Nat × Nat) := match asP n x, asP n y with
  | some a, some b => if mn a = true ∧ mn b = false ∧ mr a = none ∧ mr b = none then some (a, b) else none
  | _, _ => none
theorem jnO_n1 {x y : Int32} (e : asP n x = none) : jnO n mn mr x y = none := by unfold jnO; rw [e]
theorem jnO_n2 {x y : Int32} (e : asP n y = none) : jnO n mn mr x y = none := by
  unfold jnO; rw [e]
  cases asP n x <;> rfl
theorem jnO_2 {x y : Int32} {f m : Nat} (e1 : asP n x = some f) (e2 : asP n y = some m) : jnO n mn mr x y = if mn f = true ∧ mn m = false ∧ mr f = none ∧ mr m = none then some (f, m) else none := by
  unfold jnO; rw [e1, e2]
theorem PsV.join {a b : Nat} (V : PsV n mn pr sd mr ns) (ha : a < n) (hb : b < n) (h1 : mn a = true) (h2 : mn b = false) (h3 : mr a = none) (h4 : mr b = none) : PsV n mn pr sd (upf (upf mr a (some b)) b (some a)) ns := by
  obtain ⟨v1, v2, v3, v4, v5⟩ := V
  have hab : a ≠ b := fun z => by rw [z, h2] at h1; cases h1
  refine ⟨v1, v2, fun i hi f m e => ?_, v4, fun i hi j e => ?_⟩
  · obtain ⟨a1, a2, a3, a4, a5⟩ := v3 i hi f m e
    refine ⟨a1, a2, a3, a4, ?_⟩
    rw [upf_ne (fun z => by rw [z, h4] at a5; cases a5), upf_ne (fun z => by rw [z, h3] at a5; cases a5)]
    exact a5
  · by_cases zb : i = b
    · rw [zb, upf_eq] at e
      have e2 : a = j := Option.some.inj e
      subst e2 zb
      rw [upf_ne hab, upf_eq]
      exact ⟨ha, rfl, by rw [h1, h2]; rfl⟩
    · rw [upf_ne zb] at e
      by_cases za : i = a
      · rw [za, upf_eq] at e
        have e2 : b = j := Option.some.inj e
        subst e2 za
        rw [upf_eq]
        exact ⟨hb, rfl, by rw [h1, h2]; rfl⟩
      · rw [upf_ne za] at e
        obtain ⟨a1, a2, a3⟩ := v5 i hi j e
        rw [upf_ne (fun z => by rw [z, h4] at a2; cases a2), upf_ne (fun z => by rw [z, h3] at a2; cases a2)]
        exact ⟨a1, a2, a3⟩
theorem RegC.join {h : Hp} {a b : Nat} (R : RegC h n mn pr sd mr qa g) (hab : a ≠ b) : RegC (wR (wR h 5 a 7 (some b)) 5 b 7 (some a)) n mn pr sd (upf (upf mr a (some b)) b (some a)) qa g := by
  obtain ⟨⟨r0, r1, r2, r3, r4, r5, r6, r7, r8, r9⟩, g1, g2, g3⟩ := R
  have o : ∀ t i k, t ≠ 5 ∨ k ≠ 7 → jR (wR (wR h 5 a 7 (some b)) 5 b 7 (some a)) t i k = jR h t i k := fun t i k z => by
    rcases z with z | z
    · rw [jR_t z, jR_t z]
    · rw [jR_k z, jR_k z]
  refine ⟨⟨?_, r1, r2, r3, fun i hi => ?_, fun i hi => ?_, r6, r7, r8, r9⟩, g1, g2, g3⟩
  · rw [o _ _ _ (Or.inl (by decide))]; exact r0
  · rw [o _ _ _ (Or.inl (by decide))]; exact r4 i hi
  · obtain ⟨q0, q1, q2, q3, q4, q5, q6, q7, q8, q9, q10, q11⟩ := r5 i hi
    refine ⟨q0, q1, ?_, ?_, q4, q5, q6, ?_, q8, q9, ?_, q11⟩
    · rw [o _ _ _ (Or.inr (by decide))]; exact q2
    · rw [o _ _ _ (Or.inr (by decide))]; exact q3
    · show up3 (up3 (jR h) 5 a 7 (some b)) 5 b 7 (some a) 5 i 7 = _
      by_cases z1 : i = b
      · rw [z1, upf_eq]
        exact if_pos ⟨rfl, rfl, rfl⟩
      · rw [upf_ne z1]
        unfold up3
        rw [if_neg (fun z => z1 z.2.1)]
        by_cases z2 : i = a
        · rw [z2, upf_eq]
          exact if_pos ⟨rfl, rfl, rfl⟩
        · rw [upf_ne z2, if_neg (fun z => z2 z.2.1)]
          exact q7
    · rw [o _ _ _ (Or.inr (by decide))]; exact q10
/-- join(man, woman) -/
theorem s49 {d : Nat} {x y : Int32} {h : Hp} {K : Int32 → Hp → Prop} (V : PsV n mn pr sd mr ns) (R : RegC h n mn pr sd mr qa g) (k0 : jnO n mn mr x y = none → K 0 h) (k1 : ∀ a b, jnO n mn mr x y = some (a, b) → a < n → b < n → mn a = true → mn b = false → mr a = none → mr b = none → ∀ h', Fr XP 0 0 h h' → RegC h' n mn pr sd (upf (upf mr a (some b)) b (some a)) qa g → K 1 h') : CI (d + 2) 49 [vR 6 (some 0), vI x, vI y] h K := by
  intro P hP
  have hn := V.1
  obtain ⟨r0, r1, r2, r3, r4, r5, r6, r7, r8, r9⟩ := id R.1
  have h30 : n < 2 ^ 30 := by omega
  refine v49 hP 0 x y h (s47 V.1 R.1 (fun hno => s47 V.1 R.1 (fun _ => ?_) (fun m hm em => ?_)) (fun f hf ef => s47 V.1 R.1 (fun hno => ?_) (fun m hm em => ?_)))
  · exact ⟨fun _ => ⟨_, rfl, k0 (jnO_n1 (asP_n h30 hno))⟩, fun z => absurd rfl z⟩
  · exact ⟨fun _ => ⟨_, rfl, k0 (jnO_n1 (asP_n h30 hno))⟩, fun z => absurd rfl z⟩
  · exact ⟨(fun z => by cases z), fun _ => ⟨fun _ => ⟨_, rfl, k0 (jnO_n2 (asP_n h30 hno))⟩, fun z => absurd rfl z⟩⟩
  · have e0 : jnO n mn mr x y = if mn f = true ∧ mn m = false ∧ mr f = none ∧ mr m = none then some (f, m) else none := jnO_2 (asP_s h30 hf ef) (asP_s h30 hm em)
    have qf := r5 f hf
    have qm := r5 m hm
    refine ⟨(fun z => by cases z), fun _ => ⟨(fun z => by cases z), fun _ => ⟨fun c => ⟨_, rfl, k0 ?_⟩, fun c => ⟨fun c2 => ⟨fun c3 => ⟨_, rfl, k0 ?_⟩, fun c3 => ⟨fun c4 => ⟨_, rfl, ?_⟩, fun c4 => ⟨_, rfl, k0 ?_⟩⟩⟩, fun c2 => ⟨_, rfl, k0 ?_⟩⟩⟩⟩⟩
    · rw [e0, if_neg (fun z => ?_)]
      rw [qf.2.1, z.1] at c
      exact absurd c (by decide)
    · rw [e0, if_neg (fun z => ?_)]
      rw [qf.2.2.2.2.2.2.2.1] at c3
      exact c3 z.2.2.1
    · have h1 : mn f = true := by
        cases hb : mn f with
        | true => rfl
        | false => rw [qf.2.1, hb] at c; exact absurd rfl c
      have h2 : mn m = false := by
        cases hb : mn m with
        | false => rfl
        | true => rw [qm.2.1, hb] at c2; exact absurd c2 (by decide)
      have h3 : mr f = none := by rw [← qf.2.2.2.2.2.2.2.1]; exact Classical.not_not.mp c3
      have h4 : mr m = none := by rw [← qm.2.2.2.2.2.2.2.1]; exact c4
      rw [if_pos ⟨h1, h2, h3, h4⟩] at e0
      have hab : f ≠ m := fun z => by rw [z, h2] at h1; cases h1
      exact k1 f m e0 hf hm h1 h2 h3 h4 _ (((Fr.refl XP h).wR _ (Or.inr (Or.inr (Or.inr rfl)))).wR _ (Or.inr (Or.inr (Or.inr rfl)))) (R.join hab)
    · rw [e0, if_neg (fun z => ?_)]
      rw [qm.2.2.2.2.2.2.2.1] at c4
      exact c4 z.2.2.2
    · rw [e0, if_neg (fun z => ?_)]
      rw [qm.2.1, z.2.1] at c2
      exact c2 rfl
end
