/-! read, on both sides -/
/-- the first shield that is like sh -/
def fsh (sh : Nat → Int32) : List (Nat → Int32) → Nat → Option Nat
  | [], _ => none
  | a :: l, i => if dfS a sh = 0 then some i else fsh sh l (i + 1)
theorem fsh_lt {sh : Nat → Int32} : ∀ {l : List (Nat → Int32)} {i j : Nat}, fsh sh l i = some j → j < i + l.length
  | [], _, _, e => by cases e
  | a :: l, i, j, e => by
    unfold fsh at e
    rw [List.length_cons]
    split at e
    · have := Option.some.inj e; omega
    · have := fsh_lt e; omega
def setL (S : Sta) (L : List (Nat → Int32)) : Sta := (S.1, L, S.2.2)
def readO (S : Sta) (n : Nat) : Int32 × Sta := match shiS (kd (tX S) n) (np (tX S) n) with
  | (none, p) => (-2 - nI (sp (tX S) n p), setT S 0 (tX S))
  | (some sh, _) => match fsh sh (tL S) 0 with
    | some k => (nI k, setT S 0 (tX S))
    | none => if (tL S).length < 60 then (nI (tL S).length, setL (setT S 0 (tX S)) (tL S ++ [sh])) else (-1, setT S 0 (tX S))
def readA (S : Sta) (x : Int32) : Int32 × Sta := match asP (tT S + 1) x with
  | none => (-1, S)
  | some n => readO S n
theorem rd_1 {S : Sta} {n p : Nat} (e : shiS (kd (tX S) n) (np (tX S) n) = (none, p)) : readO S n = (-2 - nI (sp (tX S) n p), setT S 0 (tX S)) := by unfold readO; rw [e]
theorem rd_2 {S : Sta} {n p k : Nat} {sh : Nat → Int32} (e : shiS (kd (tX S) n) (np (tX S) n) = (some sh, p)) (e2 : fsh sh (tL S) 0 = some k) : readO S n = (nI k, setT S 0 (tX S)) := by unfold readO; rw [e]; dsimp only; rw [e2]
theorem rd_3 {S : Sta} {n p : Nat} {sh : Nat → Int32} (e : shiS (kd (tX S) n) (np (tX S) n) = (some sh, p)) (e2 : fsh sh (tL S) 0 = none) (h : (tL S).length < 60) : readO S n = (nI (tL S).length, setL (setT S 0 (tX S)) (tL S ++ [sh])) := by unfold readO; rw [e]; dsimp only; rw [e2]; dsimp only; rw [if_pos h]
theorem rd_4 {S : Sta} {n p : Nat} {sh : Nat → Int32} (e : shiS (kd (tX S) n) (np (tX S) n) = (some sh, p)) (e2 : fsh sh (tL S) 0 = none) (h : ¬ (tL S).length < 60) : readO S n = (-1, setT S 0 (tX S)) := by unfold readO; rw [e]; dsimp only; rw [e2]; dsimp only; rw [if_neg h]
theorem V_t0 {S : Sta} (V : StV S) : StV (setT S 0 (tX S)) := ⟨Nat.zero_le _, V.2⟩
theorem V_read {S : Sta} {x : Int32} (V : StV S) : StV (readA S x).2 := by
  unfold readA
  cases hx : asP (tT S + 1) x with
  | none => exact V
  | some n =>
    have v1 := V.1
    have hn := (asP_v (by omega) hx).1
    show StV (readO S n).2
    cases e : shiS (kd (tX S) n) (np (tX S) n) with
    | mk o p =>
      cases o with
      | none => rw [rd_1 e]; exact V_t0 V
      | some sh =>
        cases e2 : fsh sh (tL S) 0 with
        | some k => rw [rd_2 e e2]; exact V_t0 V
        | none =>
          by_cases z : (tL S).length < 60
          · rw [rd_3 e e2 z]
            obtain ⟨w1, w2, w3, w4, w5, w6⟩ := V_t0 V
            have lA : (tL S ++ [sh]).length = (tL S).length + 1 := by rw [List.length_append]; rfl
            refine ⟨w1, w2, ?_, fun s hs => ?_, w5, ?_⟩
            · show (tL S ++ [sh]).length ≤ 60
              omega
            · rcases List.mem_append.mp hs with y | y
              · exact w4 s y
              · rw [List.mem_singleton.mp y]
                exact shiS_acc e (by omega)
            · show PsT (tP S) (tL S ++ [sh]).length
              exact PsT.mono w6 (by show (tL S).length ≤ _; omega) (by omega)
          · rw [rd_4 e e2 z]; exact V_t0 V
/-! the class -/
def X92 : Nat → Nat → Nat → Prop := fun t a k => (t = 37 ∧ a = 0) ∨ (t = 10 ∧ a = 0 ∧ k = 3)
theorem c92 {d s pa : Nat} {h : Hp} {L : List (Nat → Int32)} {si : Nat → Nat} {sh : Nat → Int32} {K : Int32 → Hp → Prop} {P : Nat → List AV → List AV → Hp → Prop} (hP : Cl (Call (d + 3)) 92 (fun v h' => ∃ x, v = some (vI x) ∧ K x h') P) (H : CsH h) (Q : ShC h L si) (hl : L.length ≤ 60) (q : ShOK h s pa sh) (hs : ∀ k, k < L.length → si k < s) (o : jR h 7 s 4 = none) : ∀ (M : List (Nat → Int32)) (i : Nat), L.drop i = M → i ≤ L.length → (∀ j, fsh sh M i = some j → K (nI j) h) → (fsh sh M i = none → ¬ L.length < 60 → K (-1) h) → (fsh sh M i = none → L.length < 60 → ∀ h', Fr X92 0 0 h h' → jN h' = jN h → ShC h' (L ++ [sh]) (upf si L.length s) → K (nI L.length) h') → P 2 [vR 10 (some 0), vR 7 (some s), vI (nI i)] [] h
  | [], i, e, hi, k1, k2, k3 => by
    have hle : L.length ≤ i := by
      have := congrArg List.length e
      rw [List.length_drop] at this
      have e0 : ([] : List (Nat → Int32)).length = 0 := rfl
      omega
    have e3 := Q.1
    have il : ix (nI L.length) = L.length := nI_clamp (by omega)
    refine v92_2 hP 0 (some s) (nI i) h ⟨fun _ => ⟨fun c => ?_, fun c => ⟨_, rfl, k2 rfl (fun z => c (by rw [e3]; exact nI_lt (b := 60) z (by decide)))⟩⟩, fun c => absurd (by rw [e3]; exact nI_le hle (by omega)) c⟩
    have hlt : L.length < 60 := by
      rw [e3] at c
      rcases Nat.lt_or_ge L.length 60 with z | z
      · exact z
      · exact absurd c (nI_nlt (b := 60) z (by omega))
    refine dr_of H.2.2.2.1.2.1 ⟨by rw [e3, H.2.2.2.2.2]; exact vp_in_nI hlt (by decide), ?_⟩
    rw [e3, il]
    have e4 : jI (wR h 37 0 L.length (some s)) 10 0 3 = nI L.length := e3
    rw [e4, nI_1, jI_same, nI_s1]
    have F : Fr X92 0 0 h (wI (wR h 37 0 L.length (some s)) 10 0 3 (nI (L.length + 1))) := ((Fr.refl _ h).wR _ (Or.inr (Or.inl ⟨rfl, rfl⟩))).wI _ (Or.inr (Or.inr ⟨rfl, rfl, rfl⟩))
    have x : ∀ t a k, t ≠ 37 → t ≠ 10 → ¬ X92 t a k := fun t a k h1 h2 z => by
      rcases z with z | z
      · exact h1 z.1
      · exact h2 z.1
    have lA : (L ++ [sh]).length = L.length + 1 := by rw [List.length_append]; rfl
    refine ⟨_, rfl, k3 rfl hlt _ F rfl ⟨by rw [jI_same, lA], fun k sk e5 => ?_, fun a b hab hb => ?_⟩⟩
    · by_cases z : k = L.length
      · subst z
        rw [List.getElem?_append_right (Nat.le_refl _), Nat.sub_self] at e5
        have e6 : sh = sk := Option.some.inj e5
        subst e6
        rw [upf_eq]
        refine ⟨?_, pa, q.fr2 F (fun a k => x _ _ _ (by decide) (by decide)) (fun a k _ _ => x _ _ _ (by decide) (by decide)) (fun k _ => x _ _ _ (by decide) (by decide)) (fun k => x _ _ _ (by decide) (by decide)), Or.inl ?_⟩
        · show up3 (jR h) 37 0 L.length (some s) 37 0 L.length = _
          exact if_pos ⟨rfl, rfl, rfl⟩
        · show up3 (jR h) 37 0 L.length (some s) 7 s 4 = _
          unfold up3
          rw [if_neg (fun z => by cases z.1)]
          exact o
      · have hk : k < L.length := by
          have := (List.getElem?_eq_some_iff.mp e5).1
          omega
        rw [List.getElem?_append_left hk] at e5
        obtain ⟨q1, pb, q2, q3⟩ := Q.2.1 k sk e5
        rw [upf_ne z]
        refine ⟨?_, pb, q2.fr2 F (fun a k => x _ _ _ (by decide) (by decide)) (fun a k _ _ => x _ _ _ (by decide) (by decide)) (fun k _ => x _ _ _ (by decide) (by decide)) (fun k => x _ _ _ (by decide) (by decide)), q3.fr q2.1 F (fun a k _ _ => x _ _ _ (by decide) (by decide)) (x _ _ _ (by decide) (by decide))⟩
        show up3 (jR h) 37 0 L.length (some s) 37 0 k = _
        unfold up3
        rw [if_neg (fun y => z y.2.2)]
        exact q1
    · by_cases z : b = L.length
      · rw [z, upf_eq, upf_ne (by omega)]
        exact hs a (by omega)
      · rw [upf_ne z, upf_ne (by omega)]
        exact Q.2.2 a b hab (by omega)
  | b :: M, i, e, hi, k1, k2, k3 => by
    have hlt : i < L.length := by
      rcases Nat.lt_or_ge i L.length with z | z
      · exact z
      · rw [List.drop_eq_nil_of_le z] at e; cases e
    have eb : L[i]? = some b := by
      have := congrArg (fun l => l[0]?) e
      simp only [List.getElem?_drop, Nat.add_zero, List.getElem?_cons_zero] at this
      exact this
    have ed : L.drop (i + 1) = M := by
      have := congrArg List.tail e
      rw [List.tail_drop] at this
      exact this
    have e3 := Q.1
    have ii : ix (nI i) = i := nI_clamp (by omega)
    obtain ⟨q1, pb, q2, q3⟩ := Q.2.1 i b eb
    have hd : dfS b sh ≤ 8 := by
      unfold dfS
      have := dfN_le b sh 7
      split <;> omega
    unfold fsh at k1 k2 k3
    refine v92_2 hP 0 (some s) (nI i) h ⟨fun c => absurd (by rw [e3] at c; exact c) (nI_ge hlt (by omega)), fun _ => dr_of H.2.2.2.1.2.1 ⟨by rw [H.2.2.2.2.2]; exact vp_in_nI (by omega) (by decide), ?_⟩⟩
    rw [ii]
    refine dr_of q1 (s54 q2 q ⟨fun c => ?_, fun c => ⟨_, rfl, ?_⟩⟩)
    · have hz : ¬ dfS b sh = 0 := fun z => c (by rw [z]; rfl)
      rw [if_neg hz] at k1 k2 k3
      rw [nI_1]
      exact c92 hP H Q hl q hs o M (i + 1) ed hlt k1 k2 k3
    · have hz : dfS b sh = 0 := (nI_eq (a := dfS b sh) (b := 0) (by omega) (by decide)).mp (Classical.not_not.mp c)
      rw [if_pos hz] at k1
      exact k1 i rfl
def X9 : Nat → Nat → Nat → Prop := fun t a k => t = 9 ∨ (t = 10 ∧ a = 0 ∧ k = 1)
theorem x9n {t a k : Nat} (h1 : t ≠ 9) (h2 : t ≠ 10 ∨ k ≠ 1) : ¬ X9 t a k := fun z => by
  rcases z with z | z
  · exact h1 z
  · rcases h2 with y | y
    · exact y z.1
    · exact y z.2.2
/-- all but the tape, where only tokens and the tape's length change -/
theorem RepC.x9 {S : Sta} {h h' : Hp} {c z : Nat} (R : RepC S h) (F : Fr X9 c z h h') (n5 : jN h' 5 = jN h 5) (e : jI h' 10 0 1 = 0) : RepC (setT S 0 (tX S)) h' := by
  obtain ⟨H, T, ⟨si, Q⟩, ⟨pk, dr, B⟩, er, p1, p2, qa, g, G⟩ := R
  refine ⟨H.fr F (fun k h1 _ => x9n (by decide) (Or.inr h1)) (fun k => x9n (by decide) (Or.inl (by decide))) (fun k => x9n (by decide) (Or.inl (by decide))), ⟨e, fun j hj => absurd hj (Nat.not_lt_zero _)⟩, ⟨si, Q.fr H F (x9n (by decide) (Or.inr (by decide))) (fun k => x9n (by decide) (Or.inl (by decide))) (fun a k => x9n (by decide) (Or.inl (by decide))) (fun a k _ _ => x9n (by decide) (Or.inl (by decide))) (fun a k => x9n (by decide) (Or.inl (by decide))) (fun a k => x9n (by decide) (Or.inl (by decide)))⟩, ⟨pk, dr, B.fr F (fun j _ => x9n (by decide) (Or.inl (by decide))) (fun j => x9n (by decide) (Or.inl (by decide))) (fun a j => x9n (by decide) (Or.inl (by decide))) (fun a j _ _ => x9n (by decide) (Or.inl (by decide)))⟩, ?_, p1.fr H F (fun k => x9n (by decide) (Or.inl (by decide))), p2.fr H F (fun k => x9n (by decide) (Or.inl (by decide))) (fun k => x9n (by decide) (Or.inl (by decide))), qa, g, G.fr F n5 (fun k => x9n (by decide) (Or.inl (by decide))) (fun k => x9n (by decide) (Or.inl (by decide))) (fun a k => x9n (by decide) (Or.inl (by decide))) (fun a k _ _ => x9n (by decide) (Or.inl (by decide)))⟩
  rw [(F.2.2.1 0 0 4 B.1.1.1 (x9n (by decide) (Or.inl (by decide)))).1]; exact er
theorem Fr.tok {X : Nat → Nat → Nat → Prop} {c z o : Nat} {H G : Hp} (F : Fr X c z H G) (q : Nat × Nat × Nat) (hX : ∀ k, X 9 o k) : Fr X c z H (tokH G o q) := ((F.wI _ (Or.inr (hX 3))).wI _ (Or.inr (hX 4))).wI _ (Or.inr (hX 2))
theorem s91 {d : Nat} {h : Hp} {K : Int32 → Hp → Prop} (H : CsH h) (k : K (-2 - jI h 9 0 3) h) : CI (d + 1) 91 [vR 10 (some 0)] h K := fun P hP => v91 hP 0 h (dr_of H.2.2.2.1.2.2.1 ⟨_, rfl, k⟩)
/-- the tokens begin over the tape -/
theorem b76 {d n : Nat} {S : Sta} {h : Hp} {K : Hp → Prop} (V : StV S) (R : RepC S h) (hn : n ≤ tT S) (k : ∀ H h', TkN H h' 0 0 n (tX S) 0 → Fr X9 0 0 h H → jN H = jN h → jI H 10 0 1 = 0 → K h') : CV (d + 2) 76 [vR 9 (some 0), vR 23 (some 0), vI (nI n)] (wI h 10 0 1 0) K := by
  obtain ⟨H, T, -⟩ := R
  have v1 := V.1
  have hl : n ≤ jLen (wI h 10 0 1 0) 23 0 := by show n ≤ jLen h 23 0; rw [H.2.2.2.2.1]; omega
  have hl2 : jLen (wI h 10 0 1 0) 23 0 < 2 ^ 30 := by show jLen h 23 0 < _; rw [H.2.2.2.2.1]; decide
  have ht : ∀ j, j < n → jI (wI h 10 0 1 0) 23 0 j = tX S j := fun j hj => by rw [jI_t (by decide)]; exact T.2 j (by omega)
  refine s76 (by omega) hl hl2 ht (k (begH (wI h 10 0 1 0) 0 0 n) _ ⟨⟨_, rfl⟩, tokH_at (begH_X (by omega) hl hl2 ht) (Nat.zero_le _), Nat.zero_le _⟩ ?_ rfl ?_)
  · exact ((((Fr.refl X9 h).wI _ (Or.inr (Or.inr ⟨rfl, rfl, rfl⟩))).wR _ (Or.inr (Or.inl rfl))).wI _ (Or.inr (Or.inl rfl))).wI _ (Or.inr (Or.inl rfl))
  · unfold begH
    rw [jI_t (by decide), jI_t (by decide)]
    show jI (wI h 10 0 1 0) 10 0 1 = 0
    rw [jI_same]
theorem C89 {d : Nat} {S : Sta} {K : Int32 → Hp → Prop} {h : Hp} {x : Int32} (V : StV S) (R : RepC S h) (k : ∀ h', RepC (readA S x).2 h' → Gr h h' → K (readA S x).1 h') : CI (d + 11) 89 [vR 10 (some 0), vI x] h K := by
  intro P hP
  obtain ⟨H, T, -⟩ := id R
  have v1 := V.1
  have no : (∀ j, j < tT S + 1 → ¬ x = nI j) → K (-1) h := fun z => by
    have := k h (by unfold readA; rw [asP_n (by omega) z]; exact R) (Gr.rf h)
    unfold readA at this
    rw [asP_n (by omega) z] at this
    exact this
  refine v89 hP 0 x h ⟨fun c => ⟨_, rfl, no (fun j hj z => by rw [z] at c; exact nI_pos (by omega) c)⟩, fun c => ⟨fun c2 => ?_, fun c2 => ⟨_, rfl, no (fun j hj z => c2 (by rw [T.1, z]; exact nI_le (by omega) (by omega)))⟩⟩⟩
  obtain ⟨n, hn, en⟩ := nI_of c
  have hnT : n ≤ tT S := by
    rw [T.1, en] at c2
    rcases Nat.lt_or_ge (tT S) n with z | z
    · exact absurd c2 (nI_ge z hn)
    · exact z
  have ha : asP (tT S + 1) x = some n := asP_s (by omega) (by omega) en
  have hr : readA S x = readO S n := by unfold readA; rw [ha]
  rw [hr] at k
  rw [en]
  refine dr_of H.2.2.2.1.2.2.1 ?_
  rw [show jR (wI h 10 0 1 0) 10 0 0 = some 0 from H.2.2.2.1.1]
  refine b76 V R hnT (fun H1 h1 Rt F1 N1 e1 => ?_)
  have R1 : RepC (setT S 0 (tX S)) H1 := R.x9 F1 (by rw [N1]) e1
  have hh1 : jR h1 10 0 5 = some 0 := by rw [Rt.R]; exact R1.1.2.2.2.1.2.2.2.1
  refine dr_of hh1 (CR.of ?_ (CR.n5 (by decide) (s63 (K := fun o h' => (∃ G' p', o = none ∧ shiS (kd (tX S) n) (np (tX S) n) = (none, p') ∧ TkN G' h' 0 0 n (tX S) p' ∧ Fr XE 16 89 H1 G') ∨ (∃ G' p' sh', o = some (jN H1 7) ∧ shiS (kd (tX S) n) (np (tX S) n) = (some sh', p') ∧ TkN G' h' 0 0 n (tX S) p' ∧ Fr XE 16 89 H1 G' ∧ ShOK G' (jN H1 7) (jN H1 33) sh' ∧ jR G' 7 (jN H1 7) 4 = none)) Rt R1.1.2.1 V.2.1 R1.1.1.2.2.2.2.2 (fun G' h' p' e t f => Or.inl ⟨G', p', rfl, e, t, f⟩) (fun G' h' p' sh' e t f s o => Or.inr ⟨G', p', sh', rfl, e, t, f, s, o⟩))))
  rintro o h4 ⟨z, n5⟩
  rw [Rt.N] at n5
  have fin : ∀ G' p', TkN G' h4 0 0 n (tX S) p' → Fr XE 16 89 H1 G' → Fr X9 16 89 H1 h4 ∧ RepC (setT S 0 (tX S)) h4 ∧ Gr h h4 := fun G' p' t f => by
    obtain ⟨⟨q, eq⟩, -⟩ := id t
    have F2 : Fr X9 16 89 H1 h4 := by rw [eq]; exact (f.xe X9).tok q (fun k => Or.inl rfl)
    have e4 : jI h4 10 0 1 = 0 := by
      rw [t.I (by decide), (f.2.2.1 10 0 1 R1.1.1.1 (fun z => z)).1]; exact e1
    have F3 : Fr X9 16 89 h h4 := by
      have := F1.trans F2 (Z := X9) (fun _ _ _ _ z => z) (fun _ _ _ _ z => z)
      exact this.le (by omega) (by omega)
    exact ⟨F2, R1.x9 F2 n5 e4, F3.gr (by decide) (by decide)⟩
  rcases z with ⟨G', p', rfl, e, t, f⟩ | ⟨G', p', sh', rfl, e, t, f, s, o⟩
  · obtain ⟨F2, R4, g4⟩ := fin G' p' t f
    refine ⟨fun c => absurd rfl c, fun _ => s91 R4.1 ⟨_, rfl, ?_⟩⟩
    have e3 : jI h4 9 0 3 = nI (sp (tX S) n p') := t.2.1.2.2.1
    rw [e3]
    rw [rd_1 e] at k
    exact k h4 R4 g4
  · obtain ⟨F2, R4, g4⟩ := fin G' p' t f
    refine ⟨fun _ => ?_, fun c => absurd (fun z => by cases z) c⟩
    obtain ⟨⟨q, eq⟩, -⟩ := id t
    have F5 : Fr X9 0 0 G' h4 := by rw [eq]; exact (Fr.refl X9 G').tok q (fun k => Or.inl rfl)
    have q4 : ShOK h4 (jN H1 7) (jN H1 33) sh' := s.fr2 F5 (fun a k => x9n (by decide) (Or.inl (by decide))) (fun a k _ _ => x9n (by decide) (Or.inl (by decide))) (fun k _ => x9n (by decide) (Or.inl (by decide))) (fun k => x9n (by decide) (Or.inl (by decide)))
    have o4 : jR h4 7 (jN H1 7) 4 = none := by rw [t.R]; exact o
    obtain ⟨H4, T4, ⟨si, Q4⟩, ⟨pk, dr, B⟩, er, p1, p2, qa, g, G⟩ := id R4
    obtain ⟨-, -, ⟨sj, Q1⟩, -⟩ := id R1
    have hs : ∀ k, k < (tL S).length → si k < jN H1 7 := fun k hk => by
      have hg : (tL S)[k]? = some (tL S)[k] := List.getElem?_eq_getElem hk
      obtain ⟨a1, pa, a2, a3⟩ := Q1.2.1 k _ hg
      obtain ⟨b1, -⟩ := Q4.2.1 k _ hg
      rw [(F2.2.2.1 37 0 k R1.1.1.2.2.2.2.1 (x9n (by decide) (Or.inl (by decide)))).2.1, a1] at b1
      have : sj k = si k := Option.some.inj b1
      rw [← this]
      exact a2.1
    have hl := V.2.2.1
    refine (fun P hP => v92 hP 0 (some (jN H1 7)) h4 (c92 hP H4 Q4 hl q4 hs o4 (tL S) 0 rfl (Nat.zero_le _) (fun j ej => ⟨_, rfl, ?_⟩) (fun ej hlt => ⟨_, rfl, ?_⟩) (fun ej hlt h' F' N' Q' => ⟨_, rfl, ?_⟩)))
    · rw [rd_2 e ej] at k
      exact k h4 R4 g4
    · rw [rd_4 e ej hlt] at k
      exact k h4 R4 g4
    · rw [rd_3 e ej hlt] at k
      have x : ∀ t a k, t ≠ 37 → t ≠ 10 → ¬ X92 t a k := fun t a k h1 h2 z => by
        rcases z with z | z
        · exact h1 z.1
        · exact h2 z.1
      have x10 : ∀ k, k ≠ 3 → ¬ X92 10 0 k := fun k h1 z => by
        rcases z with z | z
        · cases z.1
        · exact h1 z.2.2
      refine k h' ⟨H4.fr F' (fun k _ h2 => x10 k h2) (fun k => x _ _ _ (by decide) (by decide)) (fun k => x _ _ _ (by decide) (by decide)), T4.fr H4 F' (x10 1 (by decide)) (fun j => x _ _ _ (by decide) (by decide)), ⟨_, Q'⟩, ⟨pk, dr, B.fr F' (fun j _ => x _ _ _ (by decide) (by decide)) (fun j => x _ _ _ (by decide) (by decide)) (fun a j => x _ _ _ (by decide) (by decide)) (fun a j _ _ => x _ _ _ (by decide) (by decide))⟩, ?_, p1.fr H4 F' (fun k => x _ _ _ (by decide) (by decide)), p2.fr H4 F' (fun k => x _ _ _ (by decide) (by decide)) (fun k => x _ _ _ (by decide) (by decide)), qa, g, G.fr F' (by rw [N']) (fun k => x _ _ _ (by decide) (by decide)) (fun k => x _ _ _ (by decide) (by decide)) (fun a k => x _ _ _ (by decide) (by decide)) (fun a k _ _ => x _ _ _ (by decide) (by decide))⟩ ⟨?_, ?_⟩
      · rw [(F'.2.2.1 0 0 4 B.1.1.1 (x _ _ _ (by decide) (by decide))).1]; exact er
      · have h1 := F'.2.2.2.1
        have h2 := g4.1
        omega
      · have h1 := F'.2.2.2.2
        have h2 := g4.2
        omega
