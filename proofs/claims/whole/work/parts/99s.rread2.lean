/-! the reference's takes, read -/
def XT : Nat → Nat → Nat → Prop := fun t a k => (t = 22 ∧ a = 1) ∨ (t = 11 ∧ a = 0 ∧ (k = 1 ∨ k = 3 ∨ k = 6))
theorem c121 {d n T : Nat} {tx : Nat → Int32} {h0 : Hp} {K : Int32 → Hp → Prop} {P : Nat → List AV → List AV → Hp → Prop} (hP : Cl (Call d) 121 (fun v h' => ∃ x, v = some (vI x) ∧ K x h') P) (S : RSh h0) (Q : TaR h0 T tx) (hT : T ≤ 240) (hn : n ≤ T) (k : ∀ h', EqX XT h0 h' → RtX h' 0 1 n tx → jI h' 11 0 6 = nI 0 → jI h' 11 0 1 = 0 → K 1 h') : ∀ (mm i : Nat) (h : Hp), i + mm = n → EqX XT h0 h → (∀ j, j < i → jI h 22 1 j &&& 255 = tx j) → P 16 [vR 11 (some 0), vI (nI n), vI (nI i)] [] h
  | 0, i, h, hi, E, t => by
    have hin : i = n := by omega
    subst hin
    refine v121_16 hP 0 (nI i) (nI i) h ⟨fun _ => ⟨_, rfl, ?_⟩, fun c => absurd (nI_le (Nat.le_refl _) (by omega)) c⟩
    have E1 : EqX XT h0 (wI (wI (wI h 11 0 3 (nI i)) 11 0 1 0) 11 0 6 0) := ((E.wI _ (Or.inr ⟨rfl, rfl, Or.inr (Or.inl rfl)⟩)).wI _ (Or.inr ⟨rfl, rfl, Or.inl rfl⟩)).wI _ (Or.inr ⟨rfl, rfl, Or.inr (Or.inr rfl)⟩)
    have S1 := E1.sh S
    refine k _ E1 ⟨by omega, ?_, S1.r2, S1.n2, fun j hj => ?_⟩ (jI_same ..) ?_
    · rw [jI_k (by decide), jI_k (by decide), jI_same]
    · rw [jI_t (by decide), jI_t (by decide), jI_t (by decide)]
      exact t j hj
    · rw [jI_k (by decide), jI_same]
  | mm + 1, i, h, hi, E, t => by
    have ii : ix (nI i) = i := nI_clamp (by omega)
    have S1 := E.sh S
    have e0 : jI h 22 0 i = jI h0 22 0 i := E.I (fun z => by rcases z with z | z; exact absurd z.2 (by decide); cases z.1)
    have q := Q.2 i (by omega)
    refine v121_16 hP 0 (nI n) (nI i) h ⟨fun c => absurd c (nI_ge (show i < n by omega) (by omega)), fun _ => dr_of S1.r0 ⟨by rw [S1.n0]; exact vp_in_nI (by omega) (by decide), dr_of S1.r2 ⟨by rw [S1.n2]; exact vp_in_nI (by omega) (by decide), ?_⟩⟩⟩
    rw [ii, e0, ← q.1, nI_1]
    refine c121 hP S Q hT hn k mm (i + 1) _ (by omega) (E.wI _ (Or.inl ⟨rfl, rfl⟩)) (fun j hj => ?_)
    by_cases z : j = i
    · rw [z, jI_same]; exact q.2
    · rw [jI_k z]; exact t j (by omega)
/-- takes(n) -/
theorem s121 {d T : Nat} {tx : Nat → Int32} {x : Int32} {h : Hp} {K : Int32 → Hp → Prop} (S : RSh h) (Q : TaR h T tx) (hT : T ≤ 240) (k0 : asP (T + 1) x = none → K 0 h) (k1 : ∀ n, asP (T + 1) x = some n → n ≤ T → ∀ h', EqX XT h h' → RtX h' 0 1 n tx → jI h' 11 0 6 = nI 0 → jI h' 11 0 1 = 0 → K 1 h') : CI (d + 1) 121 [vR 11 (some 0), vI x] h K := by
  intro P hP
  refine v121 hP 0 x h ⟨fun c => ⟨_, rfl, k0 (asP_n (by omega) (fun j hj z => by rw [z] at c; exact nI_pos (by omega) c))⟩, fun c => ⟨fun c2 => ?_, fun c2 => ⟨_, rfl, k0 (asP_n (by omega) (fun j hj z => c2 (by rw [Q.1, z]; exact nI_le (by omega) (by omega))))⟩⟩⟩
  obtain ⟨n, hn, en⟩ := nI_of c
  have hnT : n ≤ T := by
    rw [Q.1, en] at c2
    rcases Nat.lt_or_ge T n with z | z
    · exact absurd c2 (nI_ge z hn)
    · exact z
  rw [en]
  exact c121 (i := 0) hP S Q hT hnT (k1 n (asP_s (by omega) (by omega) en) hnT) n h (by omega) (EqX.refl _ h) (fun j hj => by omega)
/-- a heap with another's longs -/
def noL (G H : Hp) : Hp := (jN G, jLen G, jI G, jL H, jR G, jC G, jZ G)
theorem RepR.noL {S : Sta} {G H : Hp} (R : RepR S (noL G H)) : RepR S G := R
def Xrd (k : Nat) : Nat → Nat → Nat → Prop := fun t a j => (t = 11 ∧ ¬ (a = 0 ∧ (j = 1 ∨ j = 3 ∨ 10 < j))) ∨ (t = 21 ∧ ((a < 3 ∧ j = k) ∨ (a = 3 ∧ 63 * k ≤ j ∧ j < 63 * k + 63)))
theorem rd_eq {H h : Hp} {k n p : Nat} {tx sh : Nat → Int32} (R : RtN (rowH H k sh) h 0 1 n tx p) : EqX (Xrd k) H (noL h H) := by
  have e1 : jN h = jN H := by
    obtain ⟨⟨b, vl, t, x, dg, hd, tl, e⟩, -⟩ := R
    rw [e]; rfl
  have e2 : jC h = jC H ∧ jZ h = jZ H := by
    obtain ⟨⟨b, vl, t, x, dg, hd, tl, e⟩, -⟩ := R
    rw [e]; exact ⟨rfl, rfl⟩
  refine ⟨e1, R.len, R.R, rfl, e2.1, e2.2, fun t a j hn => ?_⟩
  show jI h t a j = jI H t a j
  by_cases z : t = 11
  · subst z
    by_cases y : a = 0 ∧ (j = 1 ∨ j = 3 ∨ 10 < j)
    · obtain ⟨y1, y2⟩ := y
      subst y1
      rw [R.Io y2]
      exact row_t (by decide)
    · exact absurd (Or.inl ⟨rfl, y⟩) hn
  · rw [R.I z]
    show rowI (jI H) k sh t a j = _
    unfold rowI
    rw [if_neg (fun w => hn (Or.inr ⟨w.1, Or.inl ⟨w.2.1, w.2.2⟩⟩)), if_neg (fun w => hn (Or.inr ⟨w.1, Or.inr ⟨w.2.1, w.2.2⟩⟩))]
/-- the reference's state, whatever is read into the row behind the last -/
theorem RepR.rd {S : Sta} {H G : Hp} {L : List (Nat → Int32)} {k : Nat} (R : RepR S H) (E : EqX (Xrd (tL S).length) H G) (e : jI G 11 0 11 = nI L.length) (hL : ∀ k sh, L[k]? = some sh → (tL S)[k]? = some sh ∨ RsK G k sh) : RepR (setL S L) G := by
  obtain ⟨r1, r2, r3, r4, r5, r6, r7, r8, r9, r10⟩ := R
  have x11 : ∀ j, j = 1 ∨ 10 < j → ¬ Xrd (tL S).length 11 0 j := fun j hj z => by
    rcases z with z | z
    · exact z.2 ⟨rfl, by omega⟩
    · cases z.1
  have x : ∀ t a j, t ≠ 11 → t ≠ 21 → ¬ Xrd (tL S).length t a j := fun t a j h1 h2 z => by
    rcases z with z | z
    · exact h1 z.1
    · exact h2 z.1
  have x21 : ∀ a j, 3 < a → ¬ Xrd (tL S).length 21 a j := fun a j ha z => by
    rcases z with z | z
    · cases z.1
    · omega
  refine ⟨E.sh r1, ?_, fun j hj => ?_, e, fun i sh ei => ?_, fun o ho => ?_, ?_, ?_, ?_, ?_⟩
  · rw [E.I (x11 1 (by decide))]; exact r2
  · rw [E.I (x _ _ _ (by decide) (by decide))]; exact r3 j hj
  · rcases hL i sh ei with y | y
    · obtain ⟨q1, q2, q3, q4, q5⟩ := r5 i sh y
      have hi := (List.getElem?_eq_some_iff.mp y).1
      refine ⟨q1, ?_, ?_, ?_, fun j hj => ?_⟩
      · rw [E.I (fun z => by rcases z with z | z; cases z.1; omega)]; exact q2
      · rw [E.I (fun z => by rcases z with z | z; cases z.1; omega)]; exact q3
      · rw [E.I (fun z => by rcases z with z | z; cases z.1; omega)]; exact q4
      · rw [E.I (fun z => by rcases z with z | z; cases z.1; omega)]; exact q5 j hj
    · exact y
  · exact (r6 o ho).eqX E (fun a k h1 _ => x21 a k (by omega))
  · exact r7.eqX E (fun a k h1 _ => x21 a k (by omega))
  · exact r8.eqX E (x11 17 (by decide)) (fun j => x _ _ _ (by decide) (by decide))
  · rw [E.I (x11 32 (by decide))]; exact r9
  · exact r10.eq E (x11 40 (by decide)) (fun i => x _ _ _ (by decide) (by decide)) (fun a i h1 _ => x21 a i (by omega))
theorem c120 {d : Nat} {x : Int32} {L : List (Nat → Int32)} {sh : Nat → Int32} {h : Hp} {K : Int32 → Hp → Prop} {P : Nat → List AV → List AV → Hp → Prop} (hP : Cl (Call (d + 3)) 120 (fun v h' => ∃ x, v = some (vI x) ∧ K x h') P) (S : RSh h) (hl : L.length ≤ 60) (e11 : jI h 11 0 11 = nI L.length) (Q : ∀ k s, L[k]? = some s → RcK h k s) (Q2 : RcK h L.length sh) : ∀ (M : List (Nat → Int32)) (i : Nat), L.drop i = M → i ≤ L.length → (∀ j, fsh sh M i = some j → K (nI j) h) → (fsh sh M i = none → ¬ L.length < 60 → K (-1) h) → (fsh sh M i = none → L.length < 60 → K (nI L.length) (wI h 11 0 11 (nI (L.length + 1)))) → P 27 [vR 11 (some 0), vI x, vI (nI i)] [] h
  | [], i, e, hi, k1, k2, k3 => by
    have hle : L.length ≤ i := by
      have := congrArg List.length e
      rw [List.length_drop] at this
      have e0 : ([] : List (Nat → Int32)).length = 0 := rfl
      omega
    refine v120_27 hP 0 x (nI i) h ⟨fun _ => ⟨fun c => ?_, fun c => ⟨_, rfl, k2 rfl (fun z => ?_)⟩⟩, fun c => absurd (by rw [e11]; exact nI_le hle (by omega)) c⟩
    · have hlt : L.length < 60 := by
        rcases Nat.lt_or_ge L.length 60 with z | z
        · exact z
        · exact absurd (by rw [e11, show L.length = 60 by omega]; rfl) c
      rw [e11, nI_1, jI_same, nI_s1]
      exact ⟨_, rfl, k3 rfl hlt⟩
    · have c1 := Classical.not_not.mp c
      rw [e11] at c1
      have := (nI_eq (a := L.length) (b := 60) (by omega) (by decide)).mp c1
      omega
  | b :: M, i, e, hi, k1, k2, k3 => by
    have hlt : i < L.length := by
      rcases Nat.lt_or_ge i L.length with z | z
      · exact z
      · rw [List.drop_eq_nil_of_le z] at e; cases e
    have eb : L[i]? = some b := by
      have := congrArg (fun l => l[0]?) e
      simp only [List.getElem?_drop, Nat.add_zero, List.getElem?_cons_zero] at this
      exact this
    have ed : L.drop (i + 1) = M := by
      have := congrArg List.tail e
      rw [List.tail_drop] at this
      exact this
    unfold fsh at k1 k2 k3
    refine v120_27 hP 0 x (nI i) h ⟨fun c => absurd (by rw [e11] at c; exact c) (nI_ge hlt (by omega)), fun _ => ?_⟩
    rw [e11]
    refine s155 S (Q i b eb) Q2 (fun hz => ⟨fun c => absurd c (by decide), fun _ => ⟨_, rfl, ?_⟩⟩) (fun hz => ⟨fun _ => ?_, fun c => absurd rfl c⟩)
    · rw [if_pos hz] at k1
      exact k1 i rfl
    · rw [if_neg hz] at k1 k2 k3
      rw [nI_1]
      exact c120 hP S hl e11 Q Q2 M (i + 1) ed hlt k1 k2 k3
theorem D120 {d : Nat} {S : Sta} {K : Int32 → Hp → Prop} {h : Hp} {x : Int32} (V : StV S) (R : RepR S h) (k : ∀ h', RepR (readA S x).2 h' → jC h' = jC h → jZ h' = jZ h → K (readA S x).1 h') : CI (d + 8) 120 [vR 11 (some 0), vI x] h K := by
  intro P hP
  obtain ⟨r1, r2, r3, r4, -⟩ := id R
  have v1 := V.1
  have hl := V.2.2.1
  unfold readA at k
  refine v120 hP 0 x h (s121 r1 ⟨r2, r3⟩ v1 (fun e => ⟨fun c => absurd rfl c, fun _ => ⟨_, rfl, ?_⟩⟩) (fun n e hn h1 E1 T1 e6 e1 => ⟨fun _ => ?_, fun c => absurd (by decide) c⟩))
  · rw [e] at k; exact k h R rfl rfl
  · rw [e] at k
    have k : ∀ h', RepR (readO S n).2 h' → jC h' = jC h → jZ h' = jZ h → K (readO S n).1 h' := k
    have R1 : RepR (setT S 0 (tX S)) h1 := R.f E1 ⟨e1, fun j hj => absurd hj (Nat.not_lt_zero _)⟩ (fun k hk z => by rcases z with z | z; cases z.1; omega) (fun j z => by rcases z with z | z; exact absurd z.2 (by decide); cases z.1) (fun j z => by rcases z with z | z <;> cases z.1) (fun a k z => by rcases z with z | z <;> cases z.1)
    obtain ⟨q1, q2, q3, q4, q5, -⟩ := id R1
    have q4 : jI h1 11 0 11 = nI (tL S).length := q4
    have cz : ∀ {sh' : Nat → Int32} {h' : Hp} {p' : Nat}, RtN (rowH h1 (tL S).length sh') h' 0 1 n (tX S) p' → jC h' = jC h ∧ jZ h' = jZ h := fun t => by
      have E := rd_eq t
      exact ⟨E.2.2.2.2.1.trans E1.2.2.2.2.1, E.2.2.2.2.2.1.trans E1.2.2.2.2.2.1⟩
    refine s122 T1 e6 q1 q4 hl V.2.1 (fun sh' h' p' es t => ⟨fun c => absurd rfl c, fun _ => ⟨_, rfl, ?_⟩⟩) (fun sh' h' p' es t => ⟨fun _ => ?_, fun c => absurd (by decide) c⟩)
    · have e5 : jI h' 11 0 5 = nI (sp (tX S) n p') := t.2.2.2.1
      rw [e5]
      rw [rd_1 es] at k
      refine k h' ?_ (cz t).1 (cz t).2
      have R2 : RepR (setL (setT S 0 (tX S)) (tL S)) (noL h' h1) := RepR.rd (k := 0) R1 (rd_eq t) (by show jI h' 11 0 11 = _; rw [t.Io (Or.inr (Or.inr (by decide)))]; exact (row_t (by decide)).trans q4) (fun k sh e => Or.inl e)
      exact R2.noL
    · have E2 := rd_eq t
      have S2 : RSh h' := RSh.of q1 t.R t.len
      have e11 : jI h' 11 0 11 = nI (tL S).length := by rw [t.Io (Or.inr (Or.inr (by decide)))]; exact (row_t (by decide)).trans q4
      have R2 : RepR (setL (setT S 0 (tX S)) (tL S)) (noL h' h1) := RepR.rd (k := 0) R1 E2 e11 (fun k sh e => Or.inl e)
      have R3 : RepR (setT S 0 (tX S)) h' := R2.noL
      obtain ⟨w1, w2, w3, w4, w5, -⟩ := id R3
      have Q2 : RcK h' (tL S).length sh' := by
        refine ⟨hl, ?_, ?_, ?_, fun i hi => ?_⟩
        · rw [t.I (by decide)]; exact row_r0 _ _ _ (by decide)
        · rw [t.I (by decide)]; exact row_r0 _ _ _ (by decide)
        · rw [t.I (by decide)]; exact row_r0 _ _ _ (by decide)
        · rw [t.I (by decide)]; exact row_r3 _ _ _ hi
      refine c120 (L := tL S) hP S2 hl e11 (fun k s e => (w5 k s e).c) Q2 (tL S) 0 rfl (Nat.zero_le _) (fun j ej => ?_) (fun ej hlt => ?_) (fun ej hlt => ?_)
      · rw [rd_2 es ej] at k; exact k h' R3 (cz t).1 (cz t).2
      · rw [rd_4 es ej hlt] at k; exact k h' R3 (cz t).1 (cz t).2
      · rw [rd_3 es ej hlt] at k
        have lA : (tL S ++ [sh']).length = (tL S).length + 1 := by rw [List.length_append]; rfl
        refine k _ ?_ (cz t).1 (cz t).2
        have E3 : EqX (fun t a k => t = 11 ∧ a = 0 ∧ k = 11) h' (wI h' 11 0 11 (nI ((tL S).length + 1))) := (EqX.refl _ h').wI _ ⟨rfl, rfl, rfl⟩
        obtain ⟨y1, y2, y3, y4, y5, y6, y7, y8, y9, y10⟩ := R3
        refine ⟨E3.sh y1, ?_, fun j hj => ?_, ?_, fun k sh e => ?_, fun o ho => ?_, ?_, ?_, ?_, ?_⟩
        · rw [E3.I (fun z => by cases z.2.2)]; exact y2
        · rw [E3.I (fun z => by cases z.1)]; exact y3 j hj
        · show jI (wI h' 11 0 11 (nI ((tL S).length + 1))) 11 0 11 = nI (tL S ++ [sh']).length
          rw [jI_same, lA]
        · have e : (tL S ++ [sh'])[k]? = some sh := e
          by_cases z : k = (tL S).length
          · subst z
            rw [List.getElem?_append_right (Nat.le_refl _), Nat.sub_self] at e
            have e6 : sh' = sh := Option.some.inj e
            subst e6
            exact (show RsK h' (tL S).length sh' from ⟨hlt, Q2.2⟩).eqX E3 (fun a k _ z => by cases z.1)
          · have hk : k < (tL S).length := by
              have := (List.getElem?_eq_some_iff.mp e).1
              omega
            rw [List.getElem?_append_left hk] at e
            exact (y5 k sh e).eqX E3 (fun a k _ z => by cases z.1)
        · exact (y6 o ho).eqX E3 (fun a k _ _ z => by cases z.1)
        · exact y7.eqX E3 (fun a k _ _ z => by cases z.1)
        · exact y8.eqX E3 (fun z => by cases z.2.2) (fun j z => by cases z.1)
        · rw [E3.I (fun z => by cases z.2.2)]; exact y9
        · exact y10.eq E3 (fun z => by cases z.2.2) (fun i z => by cases z.1) (fun a i _ _ z => by cases z.1)
