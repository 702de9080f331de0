/-! the reference's pack -/
theorem RpG.eqO {X : Nat → Nat → Nat → Prop} {h h' : Hp} {o m : Nat} {D : List Bod} (Q : RpG h o D m) (E : EqX X h h') (x4 : ¬ X 21 4 o) (x5 : ¬ X 21 5 o) (x6 : ∀ a i, 6 ≤ a → a ≤ 9 → i < 12 → ¬ X 21 a (12 * o + i)) (x10 : ∀ a j, a = 10 ∨ a = 11 → j < 240 → ¬ X 21 a (240 * o + j)) : RpG h' o D m := by
  obtain ⟨q1, q2, q3, q4, q5, q6⟩ := Q
  refine ⟨q1, q2, ?_, ?_, fun i b e => ?_, fun j x e => ?_⟩
  · rw [E.I x4]; exact q3
  · rw [E.I x5]; exact q4
  · have hi := (List.getElem?_eq_some_iff.mp e).1
    rw [E.I (x6 6 i (by decide) (by decide) (by omega)), E.I (x6 7 i (by decide) (by decide) (by omega)), E.I (x6 8 i (by decide) (by decide) (by omega)), E.I (x6 9 i (by decide) (by decide) (by omega))]
    exact q5 i b e
  · have hj := (List.getElem?_eq_some_iff.mp e).1
    rw [E.I (x10 10 j (by decide) (by omega)), E.I (x10 11 j (by decide) (by omega))]
    exact q6 j x e
def XC (o : Nat) : Nat → Nat → Nat → Prop := fun t a k => t = 21 ∧ (((a = 4 ∨ a = 5) ∧ k = o) ∨ (6 ≤ a ∧ a ≤ 9 ∧ 12 * o ≤ k ∧ k < 12 * o + 12) ∨ ((a = 10 ∨ a = 11) ∧ 240 * o ≤ k ∧ k < 240 * o + 240))
section
variable {d o : Nat} {D : List Bod} {l2 : Int32} {h0 : Hp} {K : Int32 → Hp → Prop} {P : Nat → List AV → List AV → Hp → Prop}
theorem c156 (hP : Cl (Call d) 174 (fun v h' => ∃ x, v = some (vI x) ∧ K x h') P) (S : RSh h0) (ho : o < 4) (Q : RpG h0 5 D D.length) (k : ∀ h', EqX (XC o) h0 h' → RpG h' o D D.length → K (nI D.length) h') : ∀ (mm c : Nat) (h : Hp), c + mm = (fl D).length → EqX (XC o) h0 h → jI h 21 4 o = nI D.length → jI h 21 5 o = nI (fl D).length → (∀ i a, i < D.length → 6 ≤ a → a ≤ 9 → jI h 21 a (12 * o + i) = jI h0 21 a (60 + i)) → (∀ i a, i < c → a = 10 ∨ a = 11 → jI h 21 a (240 * o + i) = jI h0 21 a (1200 + i)) → P 156 [vR 11 (some 0), vI (nI o), vI l2, vI (nI c)] [] h
  | 0, c, h, hc, E, e4, e5, b, t => by
    have hcl : c = (fl D).length := by omega
    subst hcl
    have q1 := Q.1
    have q2 := Q.2.1
    have S1 := E.sh S
    have io : ix (nI o) = o := nI_clamp (by omega)
    have s5 : jI h 21 5 5 = nI (fl D).length := by rw [E.I (fun z => by rcases z.2 with y | y | y <;> omega)]; exact Q.2.2.2.1
    refine v174_156 hP 0 (nI o) l2 _ h (dr_of S1.r19 ⟨by rw [S1.n19]; exact vp_in_nI (n := 5) (by decide) (by decide), fun _ => dr_of S1.r18 ⟨by rw [S1.n18]; exact vp_in_nI (by omega) (by decide), _, rfl, ?_⟩, fun c => absurd (by rw [s5]; exact nI_le (Nat.le_refl _) (by omega)) c⟩)
    rw [io, e4]
    refine k h E ⟨q1, q2, e4, e5, fun i b' e => ?_, fun j x e => ?_⟩
    · have hi := (List.getElem?_eq_some_iff.mp e).1
      rw [b i 6 hi (by decide) (by decide), b i 7 hi (by decide) (by decide), b i 8 hi (by decide) (by decide), b i 9 hi (by decide) (by decide)]
      exact Q.2.2.2.2.1 i b' e
    · have hj := (List.getElem?_eq_some_iff.mp e).1
      rw [t j 10 hj (by decide), t j 11 hj (by decide)]
      exact Q.2.2.2.2.2 j x e
  | mm + 1, c, h, hc, E, e4, e5, b, t => by
    have q1 := Q.1
    have q2 := Q.2.1
    have S1 := E.sh S
    have s5 : jI h 21 5 5 = nI (fl D).length := by rw [E.I (fun z => by rcases z.2 with y | y | y <;> omega)]; exact Q.2.2.2.1
    have a1 : (1200 : Int32) + nI c = nI (1200 + c) := nI_add 1200 c
    have a2 := x240 o c
    have i1 : ix (nI (1200 + c)) = 1200 + c := nI_clamp (by omega)
    have i2 : ix (nI (240 * o + c)) = 240 * o + c := nI_clamp (by omega)
    have w1 : ∀ N, N = 1440 → vp_in (nI (1200 + c)) N := fun N e => by rw [e]; exact vp_in_nI (by omega) (by decide)
    have w2 : ∀ N, N = 1440 → vp_in (nI (240 * o + c)) N := fun N e => by rw [e]; exact vp_in_nI (by omega) (by decide)
    have src : ∀ a, jI h 21 a (1200 + c) = jI h0 21 a (1200 + c) ∨ ¬ (a = 10 ∨ a = 11) := fun a => by
      by_cases z : a = 10 ∨ a = 11
      · exact Or.inl (E.I (fun y => by rcases y.2 with w | w | w <;> omega))
      · exact Or.inr z
    have s10 : jI h 21 10 (1200 + c) = jI h0 21 10 (1200 + c) := by rcases src 10 with y | y; exact y; exact absurd (Or.inl rfl) y
    have s11 : jI h 21 11 (1200 + c) = jI h0 21 11 (1200 + c) := by rcases src 11 with y | y; exact y; exact absurd (Or.inr rfl) y
    refine v174_156 hP 0 (nI o) l2 (nI c) h (dr_of S1.r19 ⟨by rw [S1.n19]; exact vp_in_nI (n := 5) (by decide) (by decide), fun cc => absurd (by rw [s5] at cc; exact cc) (nI_ge (show c < (fl D).length by omega) (by omega)), fun _ => ?_⟩)
    rw [a1, a2]
    refine dr_of S1.r24 ⟨w1 _ S1.n24, dr_of S1.r24 ⟨w2 _ S1.n24, ?_⟩⟩
    rw [i1, i2, s10]
    have E1 : EqX (XC o) h0 (wI h 21 10 (240 * o + c) (jI h0 21 10 (1200 + c))) := E.wI _ ⟨rfl, Or.inr (Or.inr ⟨Or.inl rfl, by omega, by omega⟩)⟩
    have S2 := E1.sh S
    refine dr_of S2.r25 ⟨w1 _ S2.n25, dr_of S2.r25 ⟨w2 _ S2.n25, fun h7 e7 => ?_⟩⟩
    rw [jI_a (by decide), s11] at e7
    rw [nI_1]
    subst e7
    refine c156 hP S ho Q k mm (c + 1) _ (by omega) (E1.wI _ ⟨rfl, Or.inr (Or.inr ⟨Or.inr rfl, by omega, by omega⟩)⟩) ?_ ?_ (fun i a hi h6 h9 => ?_) (fun i a hi ha => ?_)
    · rw [jI_a (by decide), jI_a (by decide)]; exact e4
    · rw [jI_a (by decide), jI_a (by decide)]; exact e5
    · rw [jI_a (by omega), jI_a (by omega)]; exact b i a hi h6 h9
    · rcases ha with ha | ha
      · subst ha
        rw [jI_a (by decide)]
        by_cases z : i = c
        · rw [z, jI_same]
        · rw [jI_k (by omega)]; exact t i 10 (by omega) (Or.inl rfl)
      · subst ha
        by_cases z : i = c
        · rw [z, jI_same]
        · rw [jI_k (by omega), jI_a (by decide)]; exact t i 11 (by omega) (Or.inr rfl)
theorem c58 (hP : Cl (Call d) 174 (fun v h' => ∃ x, v = some (vI x) ∧ K x h') P) (S : RSh h0) (ho : o < 4) (Q : RpG h0 5 D D.length) (k : ∀ h', EqX (XC o) h0 h' → RpG h' o D D.length → K (nI D.length) h') : ∀ (mm c : Nat) (h : Hp), c + mm = D.length → EqX (XC o) h0 h → jI h 21 4 o = nI D.length → jI h 21 5 o = nI (fl D).length → (∀ i a, i < c → 6 ≤ a → a ≤ 9 → jI h 21 a (12 * o + i) = jI h0 21 a (60 + i)) → P 58 [vR 11 (some 0), vI (nI o), vI l2, vI (nI c)] [] h
  | 0, c, h, hc, E, e4, e5, b => by
    have hcl : c = D.length := by omega
    subst hcl
    have q1 := Q.1
    have S1 := E.sh S
    have s4 : jI h 21 4 5 = nI D.length := by rw [E.I (fun z => by rcases z.2 with y | y | y <;> omega)]; exact Q.2.2.1
    exact v174_58 hP 0 (nI o) l2 _ h (dr_of S1.r18 ⟨by rw [S1.n18]; exact vp_in_nI (n := 5) (by decide) (by decide), fun _ => c156 (c := 0) hP S ho Q k (fl D).length h (by omega) E e4 e5 b (fun i a hi _ => by omega), fun c => absurd (by rw [s4]; exact nI_le (Nat.le_refl _) (by omega)) c⟩)
  | mm + 1, c, h, hc, E, e4, e5, b => by
    have q1 := Q.1
    have S1 := E.sh S
    have s4 : jI h 21 4 5 = nI D.length := by rw [E.I (fun z => by rcases z.2 with y | y | y <;> omega)]; exact Q.2.2.1
    have a1 : (60 : Int32) + nI c = nI (60 + c) := nI_add 60 c
    have a2 := x12 o c
    have i1 : ix (nI (60 + c)) = 60 + c := nI_clamp (by omega)
    have i2 : ix (nI (12 * o + c)) = 12 * o + c := nI_clamp (by omega)
    have w1 : ∀ N, N = 72 → vp_in (nI (60 + c)) N := fun N e => by rw [e]; exact vp_in_nI (by omega) (by decide)
    have w2 : ∀ N, N = 72 → vp_in (nI (12 * o + c)) N := fun N e => by rw [e]; exact vp_in_nI (by omega) (by decide)
    have src : ∀ a, 6 ≤ a → a ≤ 9 → jI h 21 a (60 + c) = jI h0 21 a (60 + c) := fun a h6 h9 => E.I (fun y => by rcases y.2 with w | w | w <;> omega)
    refine v174_58 hP 0 (nI o) l2 (nI c) h (dr_of S1.r18 ⟨by rw [S1.n18]; exact vp_in_nI (n := 5) (by decide) (by decide), fun cc => absurd (by rw [s4] at cc; exact cc) (nI_ge (show c < D.length by omega) (by omega)), fun _ => ?_⟩)
    rw [a1, a2]
    refine dr_of S1.r20 ⟨w1 _ S1.n20, dr_of S1.r20 ⟨w2 _ S1.n20, ?_⟩⟩
    rw [i1, i2, src 6 (by decide) (by decide)]
    have E1 : EqX (XC o) h0 (wI h 21 6 (12 * o + c) (jI h0 21 6 (60 + c))) := E.wI _ ⟨rfl, Or.inr (Or.inl ⟨by decide, by decide, by omega, by omega⟩)⟩
    have S2 := E1.sh S
    refine dr_of S2.r21 ⟨w1 _ S2.n21, dr_of S2.r21 ⟨w2 _ S2.n21, fun h6 e6 => ?_⟩⟩
    rw [jI_a (by decide), src 7 (by decide) (by decide)] at e6
    have E2 : EqX (XC o) h0 h6 := by rw [e6]; exact E1.wI _ ⟨rfl, Or.inr (Or.inl ⟨by decide, by decide, by omega, by omega⟩)⟩
    have S3 := E2.sh S
    have s8 : jI h6 21 8 (60 + c) = jI h0 21 8 (60 + c) := by rw [e6, jI_a (by decide), jI_a (by decide)]; exact src 8 (by decide) (by decide)
    have s9 : jI h6 21 9 (60 + c) = jI h0 21 9 (60 + c) := by rw [e6, jI_a (by decide), jI_a (by decide)]; exact src 9 (by decide) (by decide)
    refine dr_of S3.r22 ⟨w1 _ S3.n22, dr_of S3.r22 ⟨w2 _ S3.n22, ?_⟩⟩
    rw [s8]
    have E3 : EqX (XC o) h0 (wI h6 21 8 (12 * o + c) (jI h0 21 8 (60 + c))) := E2.wI _ ⟨rfl, Or.inr (Or.inl ⟨by decide, by decide, by omega, by omega⟩)⟩
    have S4 := E3.sh S
    refine dr_of S4.r23 ⟨w1 _ S4.n23, dr_of S4.r23 ⟨w2 _ S4.n23, fun h11 e11 => ?_⟩⟩
    rw [jI_a (by decide), s9] at e11
    have E4 : EqX (XC o) h0 h11 := by rw [e11]; exact E3.wI _ ⟨rfl, Or.inr (Or.inl ⟨by decide, by decide, by omega, by omega⟩)⟩
    rw [nI_1]
    refine c58 hP S ho Q k mm (c + 1) h11 (by omega) E4 ?_ ?_ (fun i a hi h6' h9 => ?_)
    · rw [e11, jI_a (by decide), jI_a (by decide), e6, jI_a (by decide), jI_a (by decide)]; exact e4
    · rw [e11, jI_a (by decide), jI_a (by decide), e6, jI_a (by decide), jI_a (by decide)]; exact e5
    · by_cases z : i = c
      · rw [z]
        have hc4 : a = 6 ∨ a = 7 ∨ a = 8 ∨ a = 9 := by omega
        rcases hc4 with y | y | y | y
        · rw [y, e11, jI_a (by decide), jI_a (by decide), e6, jI_a (by decide), jI_same]
        · rw [y, e11, jI_a (by decide), jI_a (by decide), e6, jI_same]
        · rw [y, e11, jI_a (by decide), jI_same]
        · rw [y, e11, jI_same]
      · rw [e11, jI_k (by omega), jI_k (by omega), e6, jI_k (by omega), jI_k (by omega)]
        exact b i a (by omega) h6' h9
end
def Xpk (o : Nat) : Nat → Nat → Nat → Prop := fun t a j => XR t a j ∨ (t = 11 ∧ ¬ (a = 0 ∧ (j = 1 ∨ j = 3 ∨ 10 < j))) ∨ XC o t a j
theorem pko_eq {H G h : Hp} {n p : Nat} {tx : Nat → Int32} (R : RtN G h 0 1 n tx p) (E : EqX XR H G) (o : Nat) : EqX (Xpk o) H (noL h H) := by
  have e1 : jN h = jN G := by
    obtain ⟨⟨b, vl, t, x, dg, hd, tl, e⟩, -⟩ := R
    rw [e]; rfl
  have e2 : jC h = jC G ∧ jZ h = jZ G := by
    obtain ⟨⟨b, vl, t, x, dg, hd, tl, e⟩, -⟩ := R
    rw [e]; exact ⟨rfl, rfl⟩
  refine ⟨e1.trans E.1, R.len.trans E.2.1, R.R.trans E.2.2.1, rfl, e2.1.trans E.2.2.2.2.1, e2.2.trans E.2.2.2.2.2.1, fun t a j hn => ?_⟩
  show jI h t a j = jI H t a j
  by_cases z : t = 11
  · subst z
    by_cases y : a = 0 ∧ (j = 1 ∨ j = 3 ∨ 10 < j)
    · obtain ⟨y1, y2⟩ := y
      subst y1
      rw [R.Io y2]
      exact E.I (fun w => hn (Or.inl w))
    · exact absurd (Or.inr (Or.inl ⟨rfl, y⟩)) hn
  · rw [R.I z]
    exact E.I (fun w => hn (Or.inl w))
theorem RepR.pk {S : Sta} {H G : Hp} {o : Nat} {D : Nat → List Bod} (R : RepR S H) (E : EqX (Xpk o) H G) (hD : ∀ i, i < 4 → i = o → RpG G i (D i) (D i).length) (hE : ∀ i, i < 4 → i ≠ o → D i = tD S i) (ho : o < 4 ∨ o = 5) : RepR (setD S D) G := by
  obtain ⟨r1, r2, r3, r4, r5, r6, r7, r8, r9, r10⟩ := R
  have x11 : ∀ j, j = 1 ∨ j = 11 ∨ j = 17 ∨ j = 32 ∨ j = 40 → ¬ Xpk o 11 0 j := fun j hj z => by
    rcases z with z | z | z
    · rcases z with z | z
      · cases z.1
      · omega
    · exact z.2 ⟨rfl, by omega⟩
    · cases z.1
  have x : ∀ t a j, t ≠ 11 → t ≠ 21 → ¬ Xpk o t a j := fun t a j h1 h2 z => by
    rcases z with z | z | z
    · rcases z with z | z
      · exact h2 z.1
      · exact h1 z.1
    · exact h1 z.1
    · exact h2 z.1
  have x21 : ∀ a j, a < 4 ∨ 12 < a → ¬ Xpk o 21 a j := fun a j ha z => by
    rcases z with z | z | z
    · rcases z with z | z
      · omega
      · cases z.1
    · cases z.1
    · rcases z.2 with y | y | y <;> omega
  have xo : ∀ i, i < 5 → i ≠ o → (¬ Xpk o 21 4 i ∧ ¬ Xpk o 21 5 i) ∧ (∀ a j, 6 ≤ a → a ≤ 9 → j < 12 → ¬ Xpk o 21 a (12 * i + j)) ∧ (∀ a j, a = 10 ∨ a = 11 → j < 240 → ¬ Xpk o 21 a (240 * i + j)) := fun i hi hne => by
    refine ⟨⟨fun z => ?_, fun z => ?_⟩, fun a j h1 h2 h3 z => ?_, fun a j h1 h3 z => ?_⟩
    · rcases z with z | z | z
      · rcases z with z | z
        · omega
        · cases z.1
      · cases z.1
      · rcases z.2 with y | y | y <;> omega
    · rcases z with z | z | z
      · rcases z with z | z
        · omega
        · cases z.1
      · cases z.1
      · rcases z.2 with y | y | y <;> omega
    · rcases z with z | z | z
      · rcases z with z | z
        · omega
        · cases z.1
      · cases z.1
      · rcases z.2 with y | y | y <;> omega
    · rcases z with z | z | z
      · rcases z with z | z
        · omega
        · cases z.1
      · cases z.1
      · rcases z.2 with y | y | y <;> omega
  refine ⟨E.sh r1, ?_, fun j hj => ?_, ?_, fun i sh ei => ?_, fun i hi => ?_, ?_, ?_, ?_, ?_⟩
  · rw [E.I (x11 1 (by decide))]; exact r2
  · rw [E.I (x _ _ _ (by decide) (by decide))]; exact r3 j hj
  · rw [E.I (x11 11 (by decide))]; exact r4
  · exact (r5 i sh ei).eqX E (fun a k h1 => x21 a k (by omega))
  · by_cases z : i = o
    · exact hD i hi z
    · show RpG G i (D i) (D i).length
      rw [hE i hi z]
      have y := xo i (by omega) z
      exact (r6 i hi).eqO E y.1.1 y.1.2 y.2.1 y.2.2
  · have y := xo 4 (by omega) (by omega)
    exact r7.eqO E y.1.1 y.1.2 y.2.1 y.2.2
  · exact r8.eqX E (x11 17 (by decide)) (fun j => x _ _ _ (by decide) (by decide))
  · rw [E.I (x11 32 (by decide))]; exact r9
  · exact r10.eq E (x11 40 (by decide)) (fun i => x _ _ _ (by decide) (by decide)) (fun a i h1 _ => x21 a i (by omega))
theorem D174 {d : Nat} {S : Sta} {K : Int32 → Hp → Prop} {h : Hp} {x y : Int32} (V : StV S) (R : RepR S h) (k : ∀ h', RepR (packA S x y).2 h' → jC h' = jC h → jZ h' = jZ h → K (packA S x y).1 h') : CI (d + 6) 174 [vR 11 (some 0), vI x, vI y] h K := by
  intro P hP
  obtain ⟨r1, r2, r3, r4, -⟩ := id R
  have v1 := V.1
  have no : asP 4 x = none ∨ asP (tT S + 1) y = none → K (-1) h := fun z => by
    have := k h (by rw [pkA_n z]; exact R) rfl rfl
    rw [pkA_n z] at this
    exact this
  refine v174 hP 0 x y h (s175 ⟨fun c => ⟨_, rfl, no (Or.inl (of4.mp c))⟩, fun c0 => s121 r1 ⟨r2, r3⟩ v1 (fun e => ⟨fun c => absurd rfl c, fun _ => ⟨_, rfl, no (Or.inr e)⟩⟩) (fun n e hn h1 E1 T1 e6 e1 => ⟨fun _ => ?_, fun c => absurd (by decide) c⟩)⟩)
  rw [of4] at c0
  cases hx : asP 4 x with
  | none => exact absurd hx c0
  | some o =>
    obtain ⟨o1, o2⟩ := asP_v (by decide) hx
    rw [pkA_s hx e] at k
    have R1 : RepR (setT S 0 (tX S)) h1 := R.f E1 ⟨e1, fun j hj => absurd hj (Nat.not_lt_zero _)⟩ (fun k hk z => by rcases z with z | z; cases z.1; omega) (fun j z => by rcases z with z | z; exact absurd z.2 (by decide); cases z.1) (fun j z => by rcases z with z | z <;> cases z.1) (fun a k z => by rcases z with z | z <;> cases z.1)
    have q1 := R1.1
    refine s176 T1 e6 q1 V.2.1 (fun G' h' p' es t E => ⟨fun c => absurd rfl c, fun _ => ⟨_, rfl, ?_⟩⟩) (fun G' h' p' D' es t Q E => ⟨fun _ => ?_, fun c => absurd (by decide) c⟩)
    · have e5 : jI h' 11 0 5 = nI (sp (tX S) n p') := t.2.2.2.1
      have E2 := pko_eq t E o
      rw [e5]
      rw [pko_1 es] at k
      have R2 : RepR (setD (setT S 0 (tX S)) (tD S)) (noL h' h1) := RepR.pk (o := 5) R1 (pko_eq t E 5) (fun i hi z => by omega) (fun i hi z => rfl) (Or.inr rfl)
      exact k h' R2.noL (E2.2.2.2.2.1.trans E1.2.2.2.2.1) (E2.2.2.2.2.2.1.trans E1.2.2.2.2.2.1)
    · have E2 := pko_eq t E o
      have S2 : RSh h' := RSh.of (E.sh q1) t.R t.len
      have Q2 : RpG h' 5 D' D'.length := RpG.tk t Q
      have w5 : ∀ N, N = 6 → vp_in 5 N := fun N e => by rw [e]; exact vp_in_nI (n := 5) (by decide) (by decide)
      have wo : ∀ N, N = 6 → vp_in (nI o) N := fun N e => by rw [e]; exact vp_in_nI (by omega) (by decide)
      have io : ix (nI o) = o := nI_clamp (by omega)
      rw [o2]
      refine dr_of S2.r18 ⟨w5 _ S2.n18, dr_of S2.r18 ⟨wo _ S2.n18, ?_⟩⟩
      rw [io, Q2.2.2.1]
      have F1 : EqX (XC o) h' (wI h' 21 4 o (nI D'.length)) := (EqX.refl _ h').wI _ ⟨rfl, Or.inl ⟨Or.inl rfl, rfl⟩⟩
      have S3 := F1.sh S2
      refine dr_of S3.r19 ⟨w5 _ S3.n19, dr_of S3.r19 ⟨wo _ S3.n19, ?_⟩⟩
      rw [jI_a (by decide), Q2.2.2.2.1]
      refine c58 (h0 := h') hP S2 o1 Q2 (fun h2 F2 Q3 => ?_) D'.length 0 _ (by omega) (F1.wI _ ⟨rfl, Or.inl ⟨Or.inr rfl, rfl⟩⟩) ?_ (jI_same ..) (fun i a hi _ _ => by omega)
      · rw [pko_2 es] at k
        have E3 : EqX (Xpk o) h1 (noL h2 h1) := by
          refine ⟨F2.1.trans E2.1, F2.2.1.trans E2.2.1, F2.2.2.1.trans E2.2.2.1, rfl, F2.2.2.2.2.1.trans E2.2.2.2.2.1, F2.2.2.2.2.2.1.trans E2.2.2.2.2.2.1, fun t a j hn => ?_⟩
          show jI h2 t a j = jI h1 t a j
          rw [F2.I (fun z => hn (Or.inr (Or.inr z)))]
          exact E2.I hn
        have R2 : RepR (setD (setT S 0 (tX S)) (upf (tD S) o D')) (noL h2 h1) := RepR.pk (o := o) R1 E3 (fun i hi z => by rw [z, upf_eq]; exact Q3) (fun i hi z => upf_ne z) (Or.inl o1)
        exact k h2 R2.noL (E3.2.2.2.2.1.trans E1.2.2.2.2.1) (E3.2.2.2.2.2.1.trans E1.2.2.2.2.2.1)
      · rw [jI_a (by decide), jI_same]
