/-! pack, on both sides -/
def setD (S : Sta) (D : Nat → List Bod) : Sta := (S.1, S.2.1, D, S.2.2.2)
def packO (S : Sta) (o n : Nat) : Int32 × Sta := match pckS (tX S) n 13 [] 0 with
  | (none, p) => (-2 - nI (sp (tX S) n p), setT S 0 (tX S))
  | (some D, _) => (nI D.length, setD (setT S 0 (tX S)) (upf (tD S) o D))
def packA (S : Sta) (x y : Int32) : Int32 × Sta := match asP 4 x, asP (tT S + 1) y with
  | some o, some n => packO S o n
  | _, _ => (-1, S)
theorem pko_1 {S : Sta} {o n p : Nat} (e : pckS (tX S) n 13 [] 0 = (none, p)) : packO S o n = (-2 - nI (sp (tX S) n p), setT S 0 (tX S)) := by unfold packO; rw [e]
theorem pko_2 {S : Sta} {o n p : Nat} {D : List Bod} (e : pckS (tX S) n 13 [] 0 = (some D, p)) : packO S o n = (nI D.length, setD (setT S 0 (tX S)) (upf (tD S) o D)) := by unfold packO; rw [e]
theorem pkA_n {S : Sta} {x y : Int32} (h : asP 4 x = none ∨ asP (tT S + 1) y = none) : packA S x y = (-1, S) := by
  unfold packA
  split
  · rename_i e1 e2
    rcases h with h | h
    · rw [h] at e1; cases e1
    · rw [h] at e2; cases e2
  · rfl
theorem pkA_s {S : Sta} {x y : Int32} {o n : Nat} (h1 : asP 4 x = some o) (h2 : asP (tT S + 1) y = some n) : packA S x y = packO S o n := by unfold packA; rw [h1, h2]
theorem V_pack {S : Sta} {x y : Int32} (V : StV S) : StV (packA S x y).2 := by
  cases h1 : asP 4 x with
  | none => rw [pkA_n (Or.inl h1)]; exact V
  | some o =>
    cases h2 : asP (tT S + 1) y with
    | none => rw [pkA_n (Or.inr h2)]; exact V
    | some n =>
      rw [pkA_s h1 h2]
      cases e : pckS (tX S) n 13 [] 0 with
      | mk q p =>
        cases q with
        | none => rw [pko_1 e]; exact V_t0 V
        | some D =>
          rw [pko_2 e]
          obtain ⟨w1, w2, w3, w4, w5, w6⟩ := V_t0 V
          refine ⟨w1, w2, w3, w4, fun i hi b hb => ?_, w6⟩
          have hb : b ∈ upf (tD S) o D i := hb
          by_cases z : i = o
          · rw [z, upf_eq] at hb
            exact pckS_v (fun b hb => by cases hb) e b hb
          · rw [upf_ne z] at hb
            exact w5 i hi b hb
/-! the class -/
theorem pb_dis {k k' i i' : Nat} (h : k ≠ k') (hi : i < 5) (hi' : i' < 5) : pb k + i ≠ pb k' + i' := by
  unfold pb
  split <;> split <;> omega
/-- the bench, where the draft is read anew -/
theorem BeC.draft {h h' : Hp} {D : Nat → List Bod} {pk : Nat → Nat} {dr c z : Nat} {X : Nat → Nat → Nat → Prop} (Q : BeC h D pk dr) (F : Fr X c z h h') (x0 : ∀ j, j < 4 → ¬ X 0 0 j) (x31 : ∀ j, ¬ X 31 0 j) (x1 : ∀ a j, a ≠ dr → ¬ X 1 a j) (x21 : ∀ k i j, k ≠ dr → i < 5 → ¬ X 21 (pb k + i) j) (P : PkS h' dr) : BeC h' D pk dr := by
  obtain ⟨⟨b1, b2, b3, b4, b5, b6, b7, b8, b9, b10, b11, b12, b13⟩, d1, d2⟩ := Q
  have f0 := fun j (hj : j < 4) => (F.2.2.1 0 0 j b1.1 (x0 j hj)).2.1
  refine ⟨⟨⟨Nat.lt_of_lt_of_le b1.1 (F.1 0), Nat.lt_of_lt_of_le b1.2.1 (F.1 21), (f0 3 (by decide)).trans b1.2.2.1, (F.2.1 21 10 b1.2.1).trans b1.2.2.2⟩, Nat.lt_of_lt_of_le b2 (F.1 31), (f0 0 (by decide)).trans b3, (f0 1 (by decide)).trans b4, (F.2.1 31 0 b2).trans b5, fun o ho => ((F.2.2.1 31 0 o b2 (x31 o)).2.1).trans (b6 o ho), (f0 2 (by decide)).trans b7, fun o ho => (b8 o ho).fr F (fun j => x1 _ j (b11 o ho).1), P, b10.fr F (fun j => x1 _ j (fun w => b12 w.symm)), b11, b12, b13⟩, fun o ho => (d1 o ho).fr (b8 o ho) F (fun j => x1 _ j (b11 o ho).1) (fun i j hi => x21 _ i j (b11 o ho).1 hi), d2.fr b10 F (fun j => x1 _ j (fun w => b12 w.symm)) (fun i j hi => x21 _ i j (fun w => b12 w.symm) hi)⟩
/-- seatDraft(office) -/
theorem s1 {d o dr : Nat} {pk : Nat → Nat} {h : Hp} {K : Hp → Prop} (B : BnS h pk dr) (ho : o < 4) (k : K (wR (wR h 31 0 o (some dr)) 0 0 2 (some (pk o)))) : CV (d + 2) 1 [vR 0 (some 0), vI (nI o)] h K := by
  intro P hP
  obtain ⟨b1, b2, b3, b4, b5, b6, b7, b8⟩ := B
  have io : ix (nI o) = o := nI_clamp (by omega)
  refine v1 hP 0 (nI o) h (s94 ⟨fun c => ?_, fun c => dr_of b4 ⟨by rw [b5]; exact vp_in_nI ho (by decide), dr_of b4 ⟨by rw [b5]; exact vp_in_nI ho (by decide), ?_⟩⟩⟩)
  · rw [of4, asP_s (by decide) ho rfl] at c; cases c
  · rw [io, b7, b6 o ho]
    exact ⟨rfl, k⟩
theorem BeC.seat {h : Hp} {D : Nat → List Bod} {E : List Bod} {pk : Nat → Nat} {o dr : Nat} (Q : BeC h D pk dr) (C : PkC h dr E) (ho : o < 4) : BeC (wR (wR h 31 0 o (some dr)) 0 0 2 (some (pk o))) (upf D o E) (upf pk o dr) (pk o) := by
  obtain ⟨⟨b1, b2, b3, b4, b5, b6, b7, b8, b9, b10, b11, b12, b13⟩, d1, d2⟩ := Q
  have j0 : ∀ k, k ≠ 2 → jR (wR (wR h 31 0 o (some dr)) 0 0 2 (some (pk o))) 0 0 k = jR h 0 0 k := fun k hk => by rw [jR_k hk, jR_t (by decide)]
  have j1 : ∀ t a k, t ≠ 31 → t ≠ 0 → jR (wR (wR h 31 0 o (some dr)) 0 0 2 (some (pk o))) t a k = jR h t a k := fun t a k h1 h2 => by rw [jR_t h2, jR_t h1]
  have pS : ∀ {q}, PkS h q → PkS (wR (wR h 31 0 o (some dr)) 0 0 2 (some (pk o))) q := fun {q} p => by
    obtain ⟨s0, s1, s2, r2, r3, r4, r5, r6, l⟩ := p
    refine ⟨s0, s1, s2, ?_, ?_, ?_, ?_, ?_, l⟩
    · rw [j1 _ _ _ (by decide) (by decide)]; exact r2
    · rw [j1 _ _ _ (by decide) (by decide)]; exact r3
    · rw [j1 _ _ _ (by decide) (by decide)]; exact r4
    · rw [j1 _ _ _ (by decide) (by decide)]; exact r5
    · rw [j1 _ _ _ (by decide) (by decide)]; exact r6
  refine ⟨⟨⟨b1.1, b1.2.1, (j0 3 (by decide)).trans b1.2.2.1, b1.2.2.2⟩, b2, (j0 0 (by decide)).trans b3, (j0 1 (by decide)).trans b4, b5, fun i hi => ?_, jR_same .., fun i hi => ?_, pS (b8 o ho), pS b10, fun i hi => ?_, fun z => (b11 o ho).2 z, fun i j hi hj e => ?_⟩, fun i hi => ?_, d2⟩
  · rw [jR_t (by decide)]
    by_cases z : i = o
    · rw [z, upf_eq]; exact jR_same ..
    · rw [upf_ne z, jR_k z]; exact b6 i hi
  · by_cases z : i = o
    · rw [z, upf_eq]; exact pS b9
    · rw [upf_ne z]; exact pS (b8 i hi)
  · by_cases z : i = o
    · rw [z, upf_eq]; exact ⟨fun w => (b11 o ho).1 w.symm, b12⟩
    · rw [upf_ne z]; exact ⟨fun w => z (b13 i o hi ho w), (b11 i hi).2⟩
  · by_cases z : i = o
    · by_cases y : j = o
      · rw [z, y]
      · rw [z, upf_eq, upf_ne y] at e
        exact absurd e.symm (b11 j hj).1
    · by_cases y : j = o
      · rw [y, upf_eq, upf_ne z] at e
        exact absurd e (b11 i hi).1
      · rw [upf_ne z, upf_ne y] at e
        exact b13 i j hi hj e
  · by_cases z : i = o
    · rw [z, upf_eq, upf_eq]; exact C
    · rw [upf_ne z, upf_ne z]; exact d1 i hi
def Xpd (dr : Nat) : Nat → Nat → Nat → Prop := fun t a k => t = 9 ∨ Xp dr t a k
theorem RepC.pd {S : Sta} {h h' : Hp} {pk : Nat → Nat} {dr c z : Nat} (R : RepC S h) (B : BeC h (tD S) pk dr) (F : Fr (Xpd dr) c z h h') (n5 : jN h' 5 = jN h 5) (P : PkS h' dr) : RepC S h' ∧ BeC h' (tD S) pk dr := by
  obtain ⟨H, T, ⟨si, Q⟩, -, er, p1, p2, qa, g, G⟩ := R
  have hd := P.1
  have x : ∀ t a k, t ≠ 9 → t ≠ 1 → t ≠ 21 → ¬ Xpd dr t a k := fun t a k h1 h2 h3 z => by
    rcases z with z | z | z
    · exact h1 z
    · exact h2 z.1
    · exact h3 z.1
  have x21 : ∀ a k, 31 ≤ a → ¬ Xpd dr 21 a k := fun a k h1 z => by
    rcases z with z | z | z
    · cases z
    · cases z.1
    · have := pb31 hd (show 4 < 5 by decide)
      omega
  have B' : BeC h' (tD S) pk dr := B.draft F (fun j _ => x _ _ _ (by decide) (by decide) (by decide)) (fun j => x _ _ _ (by decide) (by decide) (by decide)) (fun a j ha z => by
    rcases z with z | z | z
    · cases z
    · exact ha z.2
    · cases z.1) (fun k i j hk hi z => by
    rcases z with z | z | z
    · cases z
    · cases z.1
    · have := pb_dis hk hi (show pb k + i - pb dr < 5 by omega)
      omega) P
  refine ⟨⟨H.fr F (fun k _ _ => x _ _ _ (by decide) (by decide) (by decide)) (fun k => x _ _ _ (by decide) (by decide) (by decide)) (fun k => x _ _ _ (by decide) (by decide) (by decide)), T.fr H F (x _ _ _ (by decide) (by decide) (by decide)) (fun j => x _ _ _ (by decide) (by decide) (by decide)), ⟨si, Q.fr H F (x _ _ _ (by decide) (by decide) (by decide)) (fun k => x _ _ _ (by decide) (by decide) (by decide)) (fun a k => x _ _ _ (by decide) (by decide) (by decide)) (fun a k h1 _ => x21 a k h1) (fun a k => x _ _ _ (by decide) (by decide) (by decide)) (fun a k => x _ _ _ (by decide) (by decide) (by decide))⟩, ⟨pk, dr, B'⟩, ?_, p1.fr H F (fun k => x _ _ _ (by decide) (by decide) (by decide)), p2.fr H F (fun k => x _ _ _ (by decide) (by decide) (by decide)) (fun k => x _ _ _ (by decide) (by decide) (by decide)), qa, g, G.fr F n5 (fun k => x _ _ _ (by decide) (by decide) (by decide)) (fun k => x _ _ _ (by decide) (by decide) (by decide)) (fun a k => x _ _ _ (by decide) (by decide) (by decide)) (fun a k h1 _ => x21 a k h1)⟩, B'⟩
  rw [(F.2.2.1 0 0 4 B.1.1.1 (x _ _ _ (by decide) (by decide) (by decide))).1]; exact er
theorem C93 {d : Nat} {S : Sta} {K : Int32 → Hp → Prop} {h : Hp} {x y : Int32} (V : StV S) (R : RepC S h) (k : ∀ h', RepC (packA S x y).2 h' → Gr h h' → K (packA S x y).1 h') : CI (d + 38) 93 [vR 10 (some 0), vI x, vI y] h K := by
  intro P hP
  obtain ⟨H, T, -⟩ := id R
  have v1 := V.1
  have no : asP 4 x = none ∨ asP (tT S + 1) y = none → K (-1) h := fun z => by
    have := k h (by rw [pkA_n z]; exact R) (Gr.rf h)
    rw [pkA_n z] at this
    exact this
  refine v93 hP 0 x y h (s94 ⟨fun c => ⟨_, rfl, no (Or.inl (of4.mp c))⟩, fun c0 => ⟨fun c => ⟨_, rfl, no (Or.inr (asP_n (by omega) (fun j hj z => by rw [z] at c; exact nI_pos (by omega) c)))⟩, fun c => ⟨fun c2 => ?_, fun c2 => ⟨_, rfl, no (Or.inr (asP_n (by omega) (fun j hj z => c2 (by rw [T.1, z]; exact nI_le (by omega) (by omega)))))⟩⟩⟩⟩)
  rw [of4] at c0
  cases hx : asP 4 x with
  | none => exact absurd hx c0
  | some o =>
    obtain ⟨o1, o2⟩ := asP_v (by decide) hx
    obtain ⟨n, hn, en⟩ := nI_of c
    have hnT : n ≤ tT S := by
      rw [T.1, en] at c2
      rcases Nat.lt_or_ge (tT S) n with z | z
      · exact absurd c2 (nI_ge z hn)
      · exact z
    have hr : packA S x y = packO S o n := pkA_s hx (asP_s (by omega) (by omega) en)
    rw [hr] at k
    rw [en, o2]
    refine dr_of H.2.2.2.1.2.2.1 ?_
    rw [show jR (wI h 10 0 1 0) 10 0 0 = some 0 from H.2.2.2.1.1]
    refine b76 V R hnT (fun H1 h1 Rt F1 N1 e1 => ?_)
    have R1 : RepC (setT S 0 (tX S)) H1 := R.x9 F1 (by rw [N1]) e1
    obtain ⟨-, -, -, ⟨pk, dr, B1⟩, -⟩ := id R1
    have hh8 : jR h1 10 0 8 = some 0 := by rw [Rt.R]; exact R1.1.2.2.2.1.2.2.2.2.2.2.1
    have hh6 : jR h1 10 0 6 = some 0 := by rw [Rt.R]; exact R1.1.2.2.2.1.2.2.2.2.1
    have hhd : jR h1 0 0 2 = some dr := by rw [Rt.R]; exact B1.1.2.2.2.2.2.2.1
    refine dr_of hh8 (dr_of hh6 ?_)
    rw [hhd]
    refine CI.of ?_ (CI.n5 (by decide) (s17 (K := fun v h' => (∃ G' p', v = 0 ∧ pckS (tX S) n 13 [] 0 = (none, p') ∧ CL 0 n dr (tX S) H1 G' h' p') ∨ (∃ G' p' D', v = 1 ∧ pckS (tX S) n 13 [] 0 = (some D', p') ∧ CL 0 n dr (tX S) H1 G' h' p' ∧ PkC G' dr D')) Rt B1.1.2.2.2.2.2.2.2.2.1 R1.1.2.2.1 V.2.1 (by omega) (fun G' h' p' e t => Or.inl ⟨G', p', rfl, e, t⟩) (fun G' h' p' D' e t c => Or.inr ⟨G', p', D', rfl, e, t, c⟩)))
    rintro v h4 ⟨z, n5⟩
    rw [Rt.N] at n5
    have fin : ∀ G' p', CL 0 n dr (tX S) H1 G' h4 p' → (RepC (setT S 0 (tX S)) h4 ∧ BeC h4 (tD S) pk dr) ∧ Gr h h4 ∧ jI h4 9 0 3 = nI (sp (tX S) n p') := fun G' p' t => by
      obtain ⟨⟨⟨q, eq⟩, t1, t2⟩, t3, t4⟩ := id t
      have F2 : Fr (Xpd dr) 0 0 H1 h4 := by
        have f : Fr (Xpd dr) 0 0 H1 G' := ⟨t4.1, t4.2.1, fun t a k h1 h2 => t4.2.2.1 t a k h1 (fun z => h2 (Or.inr z)), t4.2.2.2⟩
        rw [eq]; exact f.tok q (fun k => Or.inl rfl)
      have F3 := F1.2.2.2
      have F4 := F2.2.2.2
      exact ⟨R1.pd B1 F2 n5 (PkS.tk t.1 t3), ⟨by omega, by omega⟩, t1.2.2.1⟩
    rcases z with ⟨G', p', rfl, e, t⟩ | ⟨G', p', D', rfl, e, t, c⟩
    · obtain ⟨⟨R4, B4⟩, g4, e3⟩ := fin G' p' t
      refine ⟨fun c => absurd rfl c, fun _ => s91 R4.1 ⟨_, rfl, ?_⟩⟩
      rw [e3]
      rw [pko_1 e] at k
      exact k h4 R4 g4
    · obtain ⟨⟨R4, B4⟩, g4, e3⟩ := fin G' p' t
      obtain ⟨H4, T4, ⟨si, Q4⟩, -, er, p1, p2, qa, g, G⟩ := id R4
      rw [pko_2 e] at k
      have C4 : PkC h4 dr D' := PkC.tk t.1 c
      have B5 := B4.seat C4 o1
      have F5 : Fr (fun t a k => (t = 31 ∧ a = 0) ∨ (t = 0 ∧ a = 0 ∧ k = 2)) 0 0 h4 (wR (wR h4 31 0 o (some dr)) 0 0 2 (some (pk o))) := ((Fr.refl _ h4).wR _ (Or.inr (Or.inl ⟨rfl, rfl⟩))).wR _ (Or.inr (Or.inr ⟨rfl, rfl, rfl⟩))
      have x : ∀ t a k, t ≠ 31 → t ≠ 0 → ¬ ((t = 31 ∧ a = 0) ∨ (t = 0 ∧ a = 0 ∧ k = 2)) := fun t a k h1 h2 z => by
        rcases z with z | z
        · exact h1 z.1
        · exact h2 z.1
      have R5 : RepC (setD (setT S 0 (tX S)) (upf (tD S) o D')) (wR (wR h4 31 0 o (some dr)) 0 0 2 (some (pk o))) := ⟨H4.fr F5 (fun k _ _ => x _ _ _ (by decide) (by decide)) (fun k => x _ _ _ (by decide) (by decide)) (fun k => x _ _ _ (by decide) (by decide)), T4.fr H4 F5 (x _ _ _ (by decide) (by decide)) (fun j => x _ _ _ (by decide) (by decide)), ⟨si, Q4.fr H4 F5 (x _ _ _ (by decide) (by decide)) (fun k => x _ _ _ (by decide) (by decide)) (fun a k => x _ _ _ (by decide) (by decide)) (fun a k _ _ => x _ _ _ (by decide) (by decide)) (fun a k => x _ _ _ (by decide) (by decide)) (fun a k => x _ _ _ (by decide) (by decide))⟩, ⟨_, _, B5⟩, er, p1.fr H4 F5 (fun k => x _ _ _ (by decide) (by decide)), p2.fr H4 F5 (fun k => x _ _ _ (by decide) (by decide)) (fun k => x _ _ _ (by decide) (by decide)), qa, g, G.fr F5 rfl (fun k => x _ _ _ (by decide) (by decide)) (fun k => x _ _ _ (by decide) (by decide)) (fun a k => x _ _ _ (by decide) (by decide)) (fun a k _ _ => x _ _ _ (by decide) (by decide))⟩
      refine ⟨fun _ => dr_of H4.2.2.2.1.2.2.2.2.2.2.1 (s1 B4.1 o1 (dr_of R5.1.2.2.2.1.2.2.2.2.2.2.1 (s2 B5 o1 ⟨_, rfl, ?_⟩))), fun c => absurd (by decide) c⟩
      rw [upf_eq]
      exact k _ R5 g4
