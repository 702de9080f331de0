/-! the class's register: heiresses, all quarterings, what is told of a person -/
def PerOK (h : Hp) (n : Nat) (mn : Nat → Bool) (pr : Nat → Option (Nat × Nat)) (sd : Nat → Nat) (mr : Nat → Option Nat) (i q : Nat) : Prop := jI h 5 i 0 = nI i ∧ jI h 5 i 1 = bi (mn i) ∧ jR h 5 i 2 = faO pr i ∧ jR h 5 i 3 = moO pr i ∧ (pr i = none → jI h 5 i 4 = nI (sd i)) ∧ jI h 5 i 5 = nI (mkN mn pr i) ∧ jI h 5 i 6 = nI (gnF pr 100 i) ∧ jR h 5 i 7 = mr i ∧ jI h 5 i 8 = nI (sonN mn pr i n) ∧ jI h 5 i 9 = nI (kidN pr i n) ∧ jR h 5 i 10 = some q ∧ jLen h 21 q = 32
def RegS (h : Hp) (n : Nat) (mn : Nat → Bool) (pr : Nat → Option (Nat × Nat)) (sd : Nat → Nat) (mr : Nat → Option Nat) (qa : Nat → Nat) : Prop := jR h 6 0 0 = some 0 ∧ jLen h 35 0 = 100 ∧ jI h 6 0 1 = nI n ∧ jN h 5 = n ∧ (∀ i, i < n → jR h 35 0 i = some i) ∧ (∀ i, i < n → PerOK h n mn pr sd mr i (qa i)) ∧ (∀ i, i < n → 31 ≤ qa i ∧ qa i < jN h 21) ∧ (∀ i j, i < j → j < n → qa i < qa j) ∧ 0 < jN h 6 ∧ 0 < jN h 35
def RegC (h : Hp) (n : Nat) (mn : Nat → Bool) (pr : Nat → Option (Nat × Nat)) (sd : Nat → Nat) (mr : Nat → Option Nat) (qa : Nat → Nat) (g : Nat) : Prop := RegS h n mn pr sd mr qa ∧ jI h 6 0 2 = nI g ∧ g ≤ n ∧ (g = n → ∀ i, i < n → QstC h i (qa i) (qT mn pr sd n n i))
def XG (n : Nat) (qa : Nat → Nat) : Nat → Nat → Nat → Prop := fun t a k => (t = 5 ∧ (k = 11 ∨ k = 12)) ∨ (t = 21 ∧ ∃ i, i < n ∧ a = qa i) ∨ (t = 6 ∧ a = 0 ∧ k = 2)
section
variable {n ns : Nat} {mn : Nat → Bool} {pr : Nat → Option (Nat × Nat)} {sd : Nat → Nat} {mr : Nat → Option Nat} {qa : Nat → Nat}
theorem PerOK.eq {X : Nat → Nat → Nat → Prop} {h h' : Hp} {i q : Nat} (Q : PerOK h n mn pr sd mr i q) (E : EqY X h h') (hX : ∀ k, k ≤ 10 → ¬ X 5 i k) : PerOK h' n mn pr sd mr i q := by
  obtain ⟨q0, q1, q2, q3, q4, q5, q6, q7, q8, q9, q10, q11⟩ := Q
  obtain ⟨e1, e2, e3, e4, e5, e6⟩ := E
  refine ⟨?_, ?_, by rw [e3]; exact q2, by rw [e3]; exact q3, fun z => ?_, ?_, ?_, by rw [e3]; exact q7, ?_, ?_, by rw [e3]; exact q10, by rw [e2]; exact q11⟩
  · rw [(e6 5 i 0 (hX 0 (by decide))).1]; exact q0
  · rw [(e6 5 i 1 (hX 1 (by decide))).1]; exact q1
  · rw [(e6 5 i 4 (hX 4 (by decide))).1]; exact q4 z
  · rw [(e6 5 i 5 (hX 5 (by decide))).1]; exact q5
  · rw [(e6 5 i 6 (hX 6 (by decide))).1]; exact q6
  · rw [(e6 5 i 8 (hX 8 (by decide))).1]; exact q8
  · rw [(e6 5 i 9 (hX 9 (by decide))).1]; exact q9
theorem RegS.eq {X : Nat → Nat → Nat → Prop} {h h' : Hp} (R : RegS h n mn pr sd mr qa) (E : EqY X h h') (hX : ∀ i k, k ≤ 10 → ¬ X 5 i k) (h6 : ¬ X 6 0 1) : RegS h' n mn pr sd mr qa := by
  obtain ⟨r0, r1, r2, r3, r4, r5, r6, r7, r8, r9⟩ := R
  refine ⟨?_, ?_, ?_, ?_, fun i hi => ?_, fun i hi => (r5 i hi).eq E (hX i), fun i hi => ?_, r7, ?_, ?_⟩
  · rw [E.2.2.1]; exact r0
  · rw [E.2.1]; exact r1
  · rw [(E.2.2.2.2.2 6 0 1 h6).1]; exact r2
  · rw [E.1]; exact r3
  · rw [E.2.2.1]; exact r4 i hi
  · rw [E.1]; exact r6 i hi
  · rw [E.1]; exact r8
  · rw [E.1]; exact r9
theorem QstC.eq {X : Nat → Nat → Nat → Prop} {h h' : Hp} {i q : Nat} {l : List Nat} (Q : QstC h i q l) (E : EqY X h h') (h1 : ¬ X 5 i 11) (h2 : ∀ j, ¬ X 21 q j) : QstC h' i q l :=
  ⟨Q.1, by rw [(E.2.2.2.2.2 5 i 11 h1).1]; exact Q.2.1, fun j x e => by rw [(E.2.2.2.2.2 21 q j (h2 j)).1]; exact Q.2.2 j x e⟩
/-- isHeiress() -/
theorem s43 {d i : Nat} {h : Hp} {K : Int32 → Hp → Prop} (hn : n ≤ 100) (e1 : jI h 5 i 1 = bi (mn i)) (e2 : jR h 5 i 2 = faO pr i) (e8 : ∀ f, faO pr i = some f → jI h 5 f 8 = nI (sonN mn pr f n)) (k : K (bi (heS mn pr n i)) h) : CI (d + 1) 43 [vR 5 (some i)] h K := by
  intro P hP
  unfold heS at k
  refine v43 hP i h ⟨fun c => ⟨_, rfl, ?_⟩, fun c => ⟨fun c2 => ⟨_, rfl, ?_⟩, fun c2 => ?_⟩⟩
  · have hm : mn i = true := by
      cases hb : mn i with
      | true => rfl
      | false => rw [e1, hb] at c; exact absurd rfl c
    rw [hm] at k
    exact k
  · rw [e2] at c2
    rw [c2] at k
    have : (!mn i && false) = false := Bool.and_false _
    rw [this] at k
    exact k
  · have hm : mn i = false := by
      cases hb : mn i with
      | false => rfl
      | true => rw [e1, hb] at c; exact absurd (fun z => absurd z (by decide)) c
    rw [hm] at k
    cases hf : faO pr i with
    | none => rw [e2, hf] at c2; exact absurd rfl c2
    | some f =>
      rw [hf] at k
      have h8 := e8 f hf
      have hle := sonN_le (mn := mn) (pr := pr) f n
      refine dr_of (by rw [e2]; exact hf) ⟨fun c3 => ⟨_, rfl, ?_⟩, fun c3 => ⟨_, rfl, ?_⟩⟩
      · have hz : ¬ sonN mn pr f n = 0 := fun z => c3 (by rw [h8, z]; rfl)
        have : (!false && decide (sonN mn pr f n = 0)) = false := by rw [decide_eq_false hz]; rfl
        rw [this] at k
        exact k
      · have hz : sonN mn pr f n = 0 := by
          have c4 := Classical.not_not.mp c3
          rw [h8] at c4
          exact (nI_eq (a := sonN mn pr f n) (b := 0) (by omega) (by decide)).mp c4
        have : (!false && decide (sonN mn pr f n = 0)) = true := by rw [decide_eq_true hz]; rfl
        rw [this] at k
        exact k
theorem RegS.he {h : Hp} (V : PsV n mn pr sd mr ns) (R : RegS h n mn pr sd mr qa) {d i : Nat} {K : Int32 → Hp → Prop} (hi : i < n) (k : K (bi (heS mn pr n i)) h) : CI (d + 1) 43 [vR 5 (some i)] h K := by
  obtain ⟨r0, r1, r2, r3, r4, r5, r6, r7, r8, r9⟩ := R
  have q := r5 i hi
  exact s43 V.1 q.2.1 q.2.2.1 (fun f e => (r5 f (by have := (fa_v V hi e).1; omega)).2.2.2.2.2.2.2.2.1) k
/-- gatherQuarterings() -/
theorem s40 {d i : Nat} {h : Hp} {K : Hp → Prop} (V : PsV n mn pr sd mr ns) (R : RegS h n mn pr sd mr qa) (hi : i < n) (hT : ∀ j, j < i → QstC h j (qa j) (qT mn pr sd n i j)) (k : ∀ h', EqY (XQ i (qa i)) h h' → QstC h' i (qa i) (qT mn pr sd n (i + 1) i) → K h') : CV (d + 3) 40 [vR 5 (some i)] h K := by
  intro P hP
  have q := R.2.2.2.2.2.1 i hi
  have r10 := q.2.2.2.2.2.2.2.2.2.2.1
  have n10 := q.2.2.2.2.2.2.2.2.2.2.2
  have E0 : EqY (XQ i (qa i)) h (wL (wI h 5 i 11 0) 5 i 12 0) := ((EqY.refl _ h).wI _ (Or.inl ⟨rfl, rfl, Or.inl rfl⟩)).wL _ (Or.inl ⟨rfl, rfl, Or.inr rfl⟩)
  have M0 : QstM (wL (wI h 5 i 11 0) 5 i 12 0) i (qa i) [] := by
    refine ⟨⟨Nat.zero_le _, jI_same h 5 i 11 0, fun j x e => by cases e⟩, 0, by decide, ?_, fun s _ => ?_⟩
    · show up3 (jL h) 5 i 12 0 5 i 12 = _
      unfold up3
      rw [if_pos ⟨rfl, rfl, rfl⟩]
      rfl
    · rw [Nat.zero_testBit]
      exact ⟨fun z => (by cases z), fun z => (by cases z)⟩
  rw [qT_eq] at k
  unfold qO at k
  cases hp : pr i with
  | none =>
    rw [hp] at k
    have ef : jR h 5 i 2 = none := by rw [q.2.2.1]; unfold faO; rw [hp]; rfl
    have em : jR h 5 i 3 = none := by rw [q.2.2.2.1]; unfold moO; rw [hp]; rfl
    have es : jI (wL (wI h 5 i 11 0) 5 i 12 0) 5 i 4 = nI (sd i) := by
      rw [(E0.2.2.2.2.2 5 i 4 (fun z => by rcases z with z | z; omega; cases z.1)).1]; exact q.2.2.2.2.1 hp
    have hs : sd i < 60 := by
      have h1 := V.2.2.2.1 i hi hp
      have h2 := V.2.1
      omega
    refine v40 hP i h ⟨fun c => absurd ef c, fun _ => ?_⟩
    rw [es]
    refine s41 M0 r10 n10 hs (fun h' E M => ⟨fun _ => ⟨rfl, k h' (E0.trans E (fun _ _ _ z => z) (fun _ _ _ z => z)) ?_⟩, fun c => absurd (by rw [E.2.2.1]; exact em) c⟩)
    exact M.1
  | some fm =>
    obtain ⟨f, m⟩ := fm
    rw [hp] at k
    dsimp only at k
    obtain ⟨v1, v2, v3, v4, v5⟩ := V.2.2.1 i hi f m hp
    have ef : jR h 5 i 2 = some f := by rw [q.2.2.1]; unfold faO; rw [hp]; rfl
    have em : jR h 5 i 3 = some m := by rw [q.2.2.2.1]; unfold moO; rw [hp]; rfl
    have qf := R.2.2.2.2.2.1 f (by omega)
    have qm := R.2.2.2.2.2.1 m (by omega)
    have nqf : qa f ≠ qa i := by have := R.2.2.2.2.2.2.2.1 f i v1 hi; omega
    have nqm : qa m ≠ qa i := by have := R.2.2.2.2.2.2.2.1 m i v2 hi; omega
    have ok := qT_ok V i (by omega)
    have xf : ¬ XQ i (qa i) 5 f 11 := fun z => by rcases z with z | z; omega; cases z.1
    have xm : ¬ XQ i (qa i) 5 m 11 := fun z => by rcases z with z | z; omega; cases z.1
    have yf : ∀ j, ¬ XQ i (qa i) 21 (qa f) j := fun j z => by rcases z with z | z; cases z.1; exact nqf z.2
    have ym : ∀ j, ¬ XQ i (qa i) 21 (qa m) j := fun j z => by rcases z with z | z; cases z.1; exact nqm z.2
    have hx5 : ∀ a k, k ≤ 10 → ¬ XQ i (qa i) 5 a k := fun a k hk z => by rcases z with z | z; omega; cases z.1
    have hx6 : ¬ XQ i (qa i) 6 0 1 := fun z => by rcases z with z | z; cases z.1; cases z.1
    refine v40 hP i h ⟨fun _ => ?_, fun c => absurd (fun z => by rw [show jR (wL (wI h 5 i 11 0) 5 i 12 0) 5 i 2 = jR h 5 i 2 from rfl, ef] at z; cases z) c⟩
    rw [show jR (wL (wI h 5 i 11 0) 5 i 12 0) 5 i 2 = some f from ef]
    refine s42 M0 r10 n10 qf.2.2.2.2.2.2.2.2.2.2.1 qf.2.2.2.2.2.2.2.2.2.2.2 ((hT f v1).eq E0 xf yf) (by omega) nqf (ok f).2 (fun h1 E1 M1 => ?_)
    have E01 : EqY (XQ i (qa i)) h h1 := E0.trans E1 (fun _ _ _ z => z) (fun _ _ _ z => z)
    have em1 : jR h1 5 i 3 = some m := by rw [E01.2.2.1]; exact em
    refine ⟨(fun c => by rw [em1] at c; cases c), fun _ => dr_of em1 ?_⟩
    have R1 : RegS h1 n mn pr sd mr qa := R.eq E01 hx5 hx6
    refine R1.he V (show m < n by omega) ⟨fun c => ⟨rfl, ?_⟩, fun c => ?_⟩
    · have hz : heS mn pr n m = false := by
        cases hb : heS mn pr n m with
        | false => rfl
        | true => rw [hb] at c; exact absurd c (by decide)
      have k1 := k h1 E01
      rw [hz] at k1
      exact k1 M1.1
    · have hz : heS mn pr n m = true := by
        cases hb : heS mn pr n m with
        | true => rfl
        | false => rw [hb] at c; exact absurd rfl c
      rw [em1]
      refine s42 M1 (by rw [E01.2.2.1]; exact r10) (by rw [E01.2.1]; exact n10) (by rw [E01.2.2.1]; exact qm.2.2.2.2.2.2.2.2.2.2.1) (by rw [E01.2.1]; exact qm.2.2.2.2.2.2.2.2.2.2.2) ((hT m v2).eq E01 xm ym) (by omega) nqm (ok m).2 (fun h2 E2 M2 => ⟨rfl, ?_⟩)
      have k1 := k h2 (E01.trans E2 (fun _ _ _ z => z) (fun _ _ _ z => z))
      rw [hz] at k1
      exact k1 M2.1
theorem xg_q {i : Nat} (hi : i < n) : ∀ t a k, XQ i (qa i) t a k → XG n qa t a k := fun t a k z => by
  rcases z with z | z
  · exact Or.inl ⟨z.1, z.2.2⟩
  · exact Or.inr (Or.inl ⟨z.1, i, hi, z.2⟩)
theorem xg5 : ∀ i k, k ≤ 10 → ¬ XG n qa 5 i k := fun i k hk z => by
  rcases z with z | z | z
  · omega
  · cases z.1
  · cases z.1
theorem xg6 : ¬ XG n qa 6 0 1 := fun z => by
  rcases z with z | z | z
  · cases z.1
  · cases z.1
  · omega
theorem c51 {d : Nat} {h0 : Hp} {K : Hp → Prop} {P : Nat → List AV → List AV → Hp → Prop} (hP : Cl (Call (d + 3)) 51 (fun v h' => v = none ∧ K h') P) (V : PsV n mn pr sd mr ns) (R : RegS h0 n mn pr sd mr qa) (k : ∀ h', EqY (XG n qa) h0 h' → RegC h' n mn pr sd mr qa n → K h') : ∀ (mm i : Nat) (h : Hp), i + mm = n → EqY (XG n qa) h0 h → (∀ j, j < i → QstC h j (qa j) (qT mn pr sd n i j)) → P 14 [vR 6 (some 0), vI (nI i)] [] h
  | 0, i, h, hi, E, T => by
    have hin : i = n := by omega
    subst hin
    have R1 := R.eq E xg5 xg6
    have hn := V.1
    have e1 := R1.2.2.1
    refine v51_14 hP 0 (nI i) h ⟨fun _ => ⟨rfl, ?_⟩, fun c => absurd (by rw [e1]; exact nI_le (Nat.le_refl _) (by omega)) c⟩
    rw [e1]
    have E2 : EqY (XG i qa) h (wI h 6 0 2 (nI i)) := (EqY.refl _ h).wI _ (Or.inr (Or.inr ⟨rfl, rfl, rfl⟩))
    have E3 : EqY (fun t a k => t = 6 ∧ a = 0 ∧ k = 2) h (wI h 6 0 2 (nI i)) := (EqY.refl _ h).wI _ ⟨rfl, rfl, rfl⟩
    refine k _ (E.trans E2 (fun _ _ _ z => z) (fun _ _ _ z => z)) ⟨R1.eq E2 xg5 xg6, jI_same .., Nat.le_refl _, fun _ j hj => ?_⟩
    exact (T j hj).eq E3 (fun z => by cases z.1) (fun _ z => by cases z.1)
  | mm + 1, i, h, hi, E, T => by
    have R1 := R.eq E xg5 xg6
    have hn := V.1
    have e1 := R1.2.2.1
    have ii : ix (nI i) = i := nI_clamp (by omega)
    refine v51_14 hP 0 (nI i) h ⟨fun c => absurd (by rw [e1] at c; exact c) (nI_ge (show i < n by omega) (by omega)), fun _ => dr_of R1.1 ⟨by rw [R1.2.1]; exact vp_in_nI (by omega) (by decide), ?_⟩⟩
    rw [ii]
    refine dr_of (R1.2.2.2.2.1 i (by omega)) ?_
    refine s40 V R1 (by omega) T (fun h' E' Q' => ?_)
    rw [nI_1]
    refine c51 hP V R k mm (i + 1) h' (by omega) (E.trans E' (fun _ _ _ z => z) (xg_q (by omega))) (fun j hj => ?_)
    by_cases z : j = i
    · rw [z]; exact Q'
    · have hji : j < i := by omega
      rw [show qT mn pr sd n (i + 1) j = qT mn pr sd n i j from if_neg z]
      have nq : qa j ≠ qa i := by have := R1.2.2.2.2.2.2.2.1 j i hji (by omega); omega
      exact (T j hji).eq E' (fun z => by rcases z with z | z; omega; cases z.1) (fun _ z => by rcases z with z | z; cases z.1; exact nq z.2)
/-- gather() -/
theorem s51 {d g : Nat} {h : Hp} {K : Hp → Prop} (V : PsV n mn pr sd mr ns) (R : RegC h n mn pr sd mr qa g) (k : ∀ h', EqY (XG n qa) h h' → RegC h' n mn pr sd mr qa n → K h') : CV (d + 4) 51 [vR 6 (some 0)] h K := by
  intro P hP
  have hn := V.1
  obtain ⟨R1, g1, g2, g3⟩ := id R
  refine v51 hP 0 h ⟨fun _ => c51 (i := 0) hP V R1 k n h (by omega) (EqY.refl _ h) (fun j hj => by omega), fun c => ⟨rfl, ?_⟩⟩
  have c1 := Classical.not_not.mp c
  rw [g1, R1.2.2.1] at c1
  have hg : g = n := (nI_eq (a := g) (b := n) (by omega) (by omega)).mp c1
  subst hg
  exact k h (EqY.refl _ h) R
/-- personAt(p) -/
theorem s47 {d : Nat} {x : Int32} {h : Hp} {K : Option Nat → Hp → Prop} (hn : n ≤ 100) (R : RegS h n mn pr sd mr qa) (k0 : (∀ j, j < n → ¬ x = nI j) → K none h) (k1 : ∀ j, j < n → x = nI j → K (some j) h) : CR (d + 1) 47 5 [vR 6 (some 0), vI x] h K := by
  intro P hP
  have e := R.2.2.1
  refine v47 hP 0 x h ⟨fun c => ⟨_, rfl, k0 (fun j hj z => ?_)⟩, fun c => ⟨fun c2 => ⟨_, rfl, k0 (fun j hj z => ?_)⟩, fun c2 => ?_⟩⟩
  · rw [z] at c; exact nI_pos (by omega) c
  · rw [e, z] at c2; exact nI_ge hj (by omega) c2
  · obtain ⟨j, hj, ej⟩ := nI_of c
    have hlt : j < n := by
      rw [e, ej] at c2
      rcases Nat.lt_or_ge j n with z | z
      · exact z
      · exact absurd (nI_le z (by omega)) c2
    refine dr_of R.1 ⟨by rw [R.2.1, ej]; exact vp_in_nI (by omega) (by decide), ?_⟩
    have ij : ix x = j := by rw [ej]; exact nI_clamp hj
    refine ⟨_, rfl, ?_⟩
    rw [ij, R.2.2.2.2.1 j hlt]
    exact k1 j hlt ej
/-- a quartering by its number -/
def qAt (l : List Nat) (x : Int32) : Int32 := if x < 0 then -1 else if nI l.length ≤ x then -1 else nI (l.getD (ix x) 0)
/-- what is told of person p -/
def faS (mn : Nat → Bool) (pr : Nat → Option (Nat × Nat)) (sd : Nat → Nat) (mr : Nat → Option Nat) (n p : Nat) (w : Int32) : Int32 := if w = 0 then nI (qT mn pr sd n n p).length else if w = 1 then bi (heS mn pr n p) else if w = 2 then nI (mkN mn pr p) else if w = 3 then nI (gnF pr 100 p) else if w = 4 then mR (mr p) else if w = 5 then nI (kidN pr p n) else if w < 100 then -1 else qAt (qT mn pr sd n n p) (w - 100)
theorem s44 {d p q : Nat} {l : List Nat} {x : Int32} {h : Hp} {K : Int32 → Hp → Prop} (Q : QstC h p q l) (r10 : jR h 5 p 10 = some q) (n10 : jLen h 21 q = 32) (k : K (qAt l x) h) : CI (d + 1) 44 [vR 5 (some p), vI x] h K := by
  intro P hP
  obtain ⟨q1, q2, q3⟩ := Q
  unfold qAt at k
  refine v44 hP p x h ⟨fun c => ⟨_, rfl, ?_⟩, fun c => ⟨fun c2 => ⟨_, rfl, ?_⟩, fun c2 => dr_of r10 ?_⟩⟩
  · rw [if_pos c] at k; exact k
  · rw [q2] at c2
    rw [if_neg c, if_pos c2] at k; exact k
  · rw [q2] at c2
    rw [if_neg c, if_neg c2] at k
    obtain ⟨j, hj, ej⟩ := nI_of c
    have ij : ix x = j := by rw [ej]; exact nI_clamp hj
    have hlt : j < l.length := by
      rw [ej] at c2
      rcases Nat.lt_or_ge j l.length with z | z
      · exact z
      · exact absurd (nI_le z (by omega)) c2
    refine ⟨by rw [n10, ej]; exact vp_in_nI (by omega) (by decide), _, rfl, ?_⟩
    rw [ij] at k ⊢
    have hg : l[j]? = some (l.getD j 0) := by
      rw [List.getD_eq_getElem?_getD, List.getElem?_eq_getElem hlt]; rfl
    rw [q3 j _ hg]
    exact k
theorem t50 {d p : Nat} {w : Int32} {h : Hp} {K : Int32 → Hp → Prop} (V : PsV n mn pr sd mr ns) (R : RegS h n mn pr sd mr qa) (hp : p < n) (hq : w = 0 ∨ ¬ w < 100 → QstC h p (qa p) (qT mn pr sd n n p)) (k : K (faS mn pr sd mr n p w) h) : (w = 0 → dr (some p) (fun a4 => (fun v h' => ∃ x, v = some (vI x) ∧ K x h') (some (vI (jI h 5 a4 11))) h)) ∧ (¬ w = 0 → (w = 1 → dr (some p) (fun a5 => CI (d + 1) 43 [vR 5 (some a5)] h (fun x7 h6 => (x7 = 0 → (fun v h' => ∃ x, v = some (vI x) ∧ K x h') (some (vI 0)) h6) ∧ (¬ x7 = 0 → (fun v h' => ∃ x, v = some (vI x) ∧ K x h') (some (vI 1)) h6)))) ∧ (¬ w = 1 → (w = 2 → dr (some p) (fun a8 => (fun v h' => ∃ x, v = some (vI x) ∧ K x h') (some (vI (jI h 5 a8 5))) h)) ∧ (¬ w = 2 → (w = 3 → dr (some p) (fun a9 => (fun v h' => ∃ x, v = some (vI x) ∧ K x h') (some (vI (jI h 5 a9 6))) h)) ∧ (¬ w = 3 → (w = 4 → dr (some p) (fun a10 => (¬ (jR h 5 a10 7) = none → dr (some p) (fun a11 => dr (jR h 5 a11 7) (fun a12 => (fun v h' => ∃ x, v = some (vI x) ∧ K x h') (some (vI (jI h 5 a12 0))) h))) ∧ (¬ (¬ (jR h 5 a10 7) = none) → (fun v h' => ∃ x, v = some (vI x) ∧ K x h') (some (vI (-1))) h))) ∧ (¬ w = 4 → (w = 5 → dr (some p) (fun a13 => (fun v h' => ∃ x, v = some (vI x) ∧ K x h') (some (vI (jI h 5 a13 9))) h)) ∧ (¬ w = 5 → (w < 100 → (fun v h' => ∃ x, v = some (vI x) ∧ K x h') (some (vI (-1))) h) ∧ (¬ w < 100 → dr (some p) (fun a14 => CI (d + 1) 44 [vR 5 (some a14), vI (w - 100)] h (fun x16 h15 => (fun v h' => ∃ x, v = some (vI x) ∧ K x h') (some (vI x16)) h15))))))))) := by
  have q := R.2.2.2.2.2.1 p hp
  unfold faS at k
  refine ⟨fun c0 => ⟨_, rfl, ?_⟩, fun c0 => ⟨fun c1 => R.he V hp ⟨fun z => ⟨_, rfl, ?_⟩, fun z => ⟨_, rfl, ?_⟩⟩, fun c1 => ⟨fun c2 => ⟨_, rfl, ?_⟩, fun c2 => ⟨fun c3 => ⟨_, rfl, ?_⟩, fun c3 => ⟨fun c4 => ⟨fun z => ?_, fun z => ⟨_, rfl, ?_⟩⟩, fun c4 => ⟨fun c5 => ⟨_, rfl, ?_⟩, fun c5 => ⟨fun c6 => ⟨_, rfl, ?_⟩, fun c6 => s44 (hq (Or.inr c6)) q.2.2.2.2.2.2.2.2.2.2.1 q.2.2.2.2.2.2.2.2.2.2.2 ⟨_, rfl, ?_⟩⟩⟩⟩⟩⟩⟩⟩
  · rw [if_pos c0] at k
    rw [(hq (Or.inl c0)).2.1]; exact k
  · rw [if_neg c0, if_pos c1, z] at k; exact k
  · rw [if_neg c0, if_pos c1] at k
    have hz : bi (heS mn pr n p) = 1 := by
      cases hb : heS mn pr n p with
      | true => rfl
      | false => rw [hb] at z; exact absurd rfl z
    rw [hz] at k; exact k
  · rw [if_neg c0, if_neg c1, if_pos c2] at k
    rw [q.2.2.2.2.2.1]; exact k
  · rw [if_neg c0, if_neg c1, if_neg c2, if_pos c3] at k
    rw [q.2.2.2.2.2.2.1]; exact k
  · rw [if_neg c0, if_neg c1, if_neg c2, if_neg c3, if_pos c4] at k
    rw [q.2.2.2.2.2.2.2.1] at z
    cases hm : mr p with
    | none => exact absurd hm z
    | some j =>
      rw [hm] at k
      refine dr_of rfl (dr_of (by rw [q.2.2.2.2.2.2.2.1]; exact hm) ⟨_, rfl, ?_⟩)
      rw [(R.2.2.2.2.2.1 j (V.2.2.2.2 p hp j hm).1).1]
      exact k
  · rw [if_neg c0, if_neg c1, if_neg c2, if_neg c3, if_pos c4] at k
    have z2 := Classical.not_not.mp z
    rw [q.2.2.2.2.2.2.2.1] at z2
    rw [z2] at k
    exact k
  · rw [if_neg c0, if_neg c1, if_neg c2, if_neg c3, if_neg c4, if_pos c5] at k
    rw [q.2.2.2.2.2.2.2.2.2.1]; exact k
  · rw [if_neg c0, if_neg c1, if_neg c2, if_neg c3, if_neg c4, if_neg c5, if_pos c6] at k; exact k
  · rw [if_neg c0, if_neg c1, if_neg c2, if_neg c3, if_neg c4, if_neg c5, if_neg c6] at k; exact k
/-- detail(p, what) -/
theorem s50 {d g : Nat} {x w : Int32} {h : Hp} {K : Int32 → Hp → Prop} (V : PsV n mn pr sd mr ns) (R : RegC h n mn pr sd mr qa g) (k0 : (∀ j, j < n → ¬ x = nI j) → K (-1) h) (k1 : ∀ p, p < n → x = nI p → ∀ h' g', EqY (XG n qa) h h' → RegC h' n mn pr sd mr qa g' → K (faS mn pr sd mr n p w) h') : CI (d + 5) 50 [vR 6 (some 0), vI x, vI w] h K := by
  intro P hP
  refine v50 hP 0 x w h (s47 V.1 R.1 (fun hno => ⟨fun c => absurd rfl c, fun _ => ⟨_, rfl, k0 hno⟩⟩) (fun p hp e => ⟨fun _ => ⟨fun c0 => s51 V R (fun h' E R' => t50 V R'.1 hp (fun _ => R'.2.2.2 rfl p hp) (k1 p hp e h' n E R')), fun c0 => ⟨fun c1 => t50 V R.1 hp (fun z => ?_) (k1 p hp e h g (EqY.refl _ h) R), fun c1 => s51 V R (fun h' E R' => t50 V R'.1 hp (fun _ => R'.2.2.2 rfl p hp) (k1 p hp e h' n E R'))⟩⟩, fun c => absurd (fun z => by cases z) c⟩))
  rcases z with z | z
  · exact absurd z c0
  · exact absurd c1 z
end
