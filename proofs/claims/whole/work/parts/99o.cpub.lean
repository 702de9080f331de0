/-! the class: judge, part, write, person, marry, family -/
def setW (S : Sta) (w : List Int32) : Sta := (S.1, S.2.1, S.2.2.1, w, S.2.2.2.2.1, S.2.2.2.2.2)
def setP (S : Sta) (p : Pst) : Sta := (S.1, S.2.1, S.2.2.1, S.2.2.2.1, S.2.2.2.2.1, p)
section
variable {d : Nat} {S : Sta} {K : Int32 → Hp → Prop} {h : Hp}
theorem C99 {x y w : Int32} (V : StV S) (R : RepC S h) (k : ∀ h', RepC (setR S (judgeA S x y w).2) h' → Gr h h' → K (judgeA S x y w).1 h') : CI (d + 7) 99 [vR 10 (some 0), vI x, vI y, vI w] h K := by
  intro P hP
  obtain ⟨H, T, ⟨si, Q⟩, -⟩ := id R
  have F0 : Fr XJc 0 0 h (wI h 0 0 4 0) := (Fr.refl _ h).wI _ (Or.inr (Or.inr ⟨rfl, rfl, rfl⟩))
  have e0 : jI (wI h 0 0 4 0) 0 0 4 = 0 := jI_same ..
  have R0 : RepC (setR S 0) (wI h 0 0 4 0) := R.j F0 rfl e0
  have H0 := R0.1
  have Q0 : ShC (wI h 0 0 4 0) (tL S) si := Q.fr H F0 (fun z => by rcases z with z | z <;> cases z.1) (fun k z => by rcases z with z | z <;> cases z.1) (fun a k z => by rcases z with z | z <;> cases z.1) (fun a k h1 _ z => by rcases z with z | z; omega; cases z.1) (fun a k z => by rcases z with z | z <;> cases z.1) (fun a k z => by rcases z with z | z <;> cases z.1)
  have no : judgeA S x y w = (0, 0) → K 0 (wI h 0 0 4 0) := fun z => by
    have := k (wI h 0 0 4 0) (by rw [z]; exact R0) (F0.gr (by decide) (by decide))
    rw [z] at this
    exact this
  refine v99 hP 0 x y w h (dr_of H.2.2.2.1.2.2.2.2.2.2.1 (s96 H0 Q0 V.2.2.1 (fun e => ⟨fun _ => ⟨_, rfl, no (judge_n (Or.inl (shA_n e)))⟩, fun c => absurd rfl c⟩) (fun j sh e e2 => ⟨(fun z => by cases z), fun _ => s86 ⟨fun c => ⟨_, rfl, no (judge_n (Or.inr (Or.inl (of4.mp c))))⟩, fun c => s94 ⟨fun c2 => ?_, fun c2 => ⟨_, rfl, no (judge_n (Or.inr (Or.inr (of4.mp (Classical.not_not.mp c2)))))⟩⟩⟩⟩)))
  rw [of4] at c c2
  cases hy : asP 4 y with
  | none => exact absurd hy c
  | some r =>
    cases hw : asP 4 w with
    | none => exact absurd hw c2
    | some o =>
      obtain ⟨r1, r2⟩ := asP_v (by decide) hy
      obtain ⟨o1, o2⟩ := asP_v (by decide) hw
      rw [judge_s (shA_s e e2) hy hw] at k
      rw [r2, o2]
      exact c99 (S := S) hP V R Q e2 r1 o1 (fun h' F n e => k h' (R.j F n e) (F.gr (by decide) (by decide))) 7 0 un _ rfl F0 rfl e0
theorem C103 {x p y w : Int32} (V : StV S) (R : RepC S h) (k : ∀ h', RepC (setR S (partA S x p y w).2) h' → Gr h h' → K (partA S x p y w).1 h') : CI (d + 7) 103 [vR 10 (some 0), vI x, vI p, vI y, vI w] h K := by
  intro P hP
  obtain ⟨H, T, ⟨si, Q⟩, ⟨pk, dr, B⟩, -⟩ := id R
  have F0 : Fr XJc 0 0 h (wI h 0 0 4 0) := (Fr.refl _ h).wI _ (Or.inr (Or.inr ⟨rfl, rfl, rfl⟩))
  have e0 : jI (wI h 0 0 4 0) 0 0 4 = 0 := jI_same ..
  have R0 : RepC (setR S 0) (wI h 0 0 4 0) := R.j F0 rfl e0
  have H0 := R0.1
  have Q0 : ShC (wI h 0 0 4 0) (tL S) si := Q.fr H F0 (fun z => by rcases z with z | z <;> cases z.1) (fun k z => by rcases z with z | z <;> cases z.1) (fun a k z => by rcases z with z | z <;> cases z.1) (fun a k h1 _ z => by rcases z with z | z; omega; cases z.1) (fun a k z => by rcases z with z | z <;> cases z.1) (fun a k z => by rcases z with z | z <;> cases z.1)
  have B0 : BeC (wI h 0 0 4 0) (tD S) pk dr := B.fr F0 (fun j hj z => by rcases z with z | z; cases z.1; omega) (fun j z => by rcases z with z | z <;> cases z.1) (fun a j z => by rcases z with z | z <;> cases z.1) (fun a j _ h2 z => by rcases z with z | z; omega; cases z.1)
  have no : partA S x p y w = (0, 0) → K 0 (wI h 0 0 4 0) := fun z => by
    have := k (wI h 0 0 4 0) (by rw [z]; exact R0) (F0.gr (by decide) (by decide))
    rw [z] at this
    exact this
  refine v103 hP 0 x p y w h (dr_of H.2.2.2.1.2.2.2.2.2.2.1 (s96 H0 Q0 V.2.2.1 (fun e => ⟨fun _ => ⟨_, rfl, no (part_n (Or.inl (shA_n e)))⟩, fun c => absurd rfl c⟩) (fun j sh e e2 => ⟨(fun z => by cases z), fun _ => s86 ⟨fun c => ⟨_, rfl, no (part_n (Or.inr (Or.inl (of4.mp c))))⟩, fun c => s94 ⟨fun c2 => ?_, fun c2 => ⟨_, rfl, no (part_n (Or.inr (Or.inr (of4.mp (Classical.not_not.mp c2)))))⟩⟩⟩⟩)))
  rw [of4] at c c2
  cases hy : asP 4 y with
  | none => exact absurd hy c
  | some r =>
    cases hw : asP 4 w with
    | none => exact absurd hw c2
    | some o =>
      obtain ⟨r1, r2⟩ := asP_v (by decide) hy
      obtain ⟨o1, o2⟩ := asP_v (by decide) hw
      have hs := part_s (p := p) (shA_s e e2) hy hw
      obtain ⟨-, pa, q, -⟩ := Q0.2.1 j sh e2
      refine dr_of rfl (s59 q (fun e3 => ⟨fun c => absurd rfl c, fun _ => ⟨_, rfl, no (by rw [hs, e3])⟩⟩) (fun pl e3 => ⟨fun c3 => dr_of H0.2.2.2.1.2.2.2.2.2.2.1 ?_, fun c3 => ?_⟩))
      · obtain ⟨v1, v2⟩ := plN_v e3
        cases hq : jR (wI h 0 0 4 0) 33 pa pl with
        | none => exact absurd hq c3
        | some pt =>
          have hs2 : partA S x p y w = nvM (sfS (tD S o) Dcm r (ix (sh (3 + 9 * pl)))) (vlS sh pl) 8 := by rw [hs, e3]
          rw [hs2] at k
          rw [r2, o2]
          refine n3 (S := S) (si := si) V q B0 e2 o1 (by omega) v2 hq (fun h' F n e => ⟨_, rfl, ?_⟩)
          rw [e0, Int32.zero_add] at e
          have F2 := F0.trans F (fun _ _ _ _ z => z) (fun _ _ _ _ z => z)
          exact k h' (R.j F2 n e) (F2.gr (by decide) (by decide))
      · have v := plN_v e3
        have c4 := (q.no (show pl < 7 by omega)).mp (Classical.not_not.mp c3)
        exact absurd c4 v.2
def writeA (S : Sta) (x : Int32) : Int32 × Sta := match shA (tL S) x with
  | none => (-1, S)
  | some sh => (nI (wrS sh).length, setW S (wrS sh))
theorem C95 {x : Int32} (V : StV S) (R : RepC S h) (k : ∀ h', RepC (writeA S x).2 h' → Gr h h' → K (writeA S x).1 h') : CI (d + 7) 95 [vR 10 (some 0), vI x] h K := by
  intro P hP
  obtain ⟨H, T, ⟨si, Q⟩, ⟨pk, dr, B⟩, er, p1, p2, qa, g, G⟩ := id R
  unfold writeA at k
  refine v95 hP 0 x h (s96 H Q V.2.2.1 (fun e => ⟨fun c => absurd rfl c, fun _ => ⟨_, rfl, ?_⟩⟩) (fun j sh e e2 => ⟨fun _ => dr_of H.2.2.2.1.2.2.2.2.2.1 ?_, fun c => absurd (fun z => by cases z) c⟩))
  · rw [shA_n e] at k; exact k h R (Gr.rf h)
  · rw [shA_s e e2] at k
    obtain ⟨-, pa, q, -⟩ := Q.2.1 j sh e2
    have A := V.2.2.2.1 sh (List.mem_of_getElem? e2)
    refine s30 p1 q A.2.1 A.2.2.2.2.2 (fun h' E W => ⟨_, rfl, k h' ?_ (E.fr.gr (by decide) (by decide))⟩)
    have F := E.fr
    have x : ∀ t a k, t ≠ 23 → t ≠ 4 → ¬ XW t a k := fun t a k h1 h2 z => by
      rcases z with z | z
      · exact h1 z.1
      · exact h2 z.1
    have x23 : ∀ k, ¬ XW 23 0 k := fun k z => by
      rcases z with z | z
      · cases z.2
      · cases z.1
    exact ⟨H.fr F (fun k _ _ => x _ _ _ (by decide) (by decide)) (fun k => x _ _ _ (by decide) (by decide)) (fun k => x _ _ _ (by decide) (by decide)), T.fr H F (x _ _ _ (by decide) (by decide)) x23, ⟨si, Q.fr H F (x _ _ _ (by decide) (by decide)) (fun k => x _ _ _ (by decide) (by decide)) (fun a k => x _ _ _ (by decide) (by decide)) (fun a k _ _ => x _ _ _ (by decide) (by decide)) (fun a k => x _ _ _ (by decide) (by decide)) (fun a k => x _ _ _ (by decide) (by decide))⟩, ⟨pk, dr, B.fr F (fun j _ => x _ _ _ (by decide) (by decide)) (fun j => x _ _ _ (by decide) (by decide)) (fun a j => x _ _ _ (by decide) (by decide)) (fun a j _ _ => x _ _ _ (by decide) (by decide))⟩, by rw [E.I (x _ _ _ (by decide) (by decide))]; exact er, ⟨by rw [E.2.2.1]; exact p1.1, by rw [E.2.1]; exact p1.2⟩, W, qa, g, G.fr F (by rw [E.1]) (fun k => x _ _ _ (by decide) (by decide)) (fun k => x _ _ _ (by decide) (by decide)) (fun a k => x _ _ _ (by decide) (by decide)) (fun a k _ _ => x _ _ _ (by decide) (by decide))⟩
theorem RepC.p {h' : Hp} {c z g : Nat} {p : Pst} {qa : Nat → Nat} (R : RepC S h) (F : Fr XP c z h h') (G : ReC h' p qa g) : RepC (setP S p) h' := by
  obtain ⟨H, T, ⟨si, Q⟩, ⟨pk, dr, B⟩, er, p1, p2, -⟩ := R
  have x : ∀ t a k, t ≠ 35 → t ≠ 6 → t ≠ 5 → ¬ XP t a k := fun t a k h1 h2 h3 z => by
    rcases z with z | z | z
    · exact h1 z.1
    · exact h2 z.1
    · exact h3 z
  exact ⟨H.fr F (fun k _ _ => x _ _ _ (by decide) (by decide) (by decide)) (fun k => x _ _ _ (by decide) (by decide) (by decide)) (fun k => x _ _ _ (by decide) (by decide) (by decide)), T.fr H F (x _ _ _ (by decide) (by decide) (by decide)) (fun j => x _ _ _ (by decide) (by decide) (by decide)), ⟨si, Q.fr H F (x _ _ _ (by decide) (by decide) (by decide)) (fun k => x _ _ _ (by decide) (by decide) (by decide)) (fun a k => x _ _ _ (by decide) (by decide) (by decide)) (fun a k _ _ => x _ _ _ (by decide) (by decide) (by decide)) (fun a k => x _ _ _ (by decide) (by decide) (by decide)) (fun a k => x _ _ _ (by decide) (by decide) (by decide))⟩, ⟨pk, dr, B.fr F (fun j _ => x _ _ _ (by decide) (by decide) (by decide)) (fun j => x _ _ _ (by decide) (by decide) (by decide)) (fun a j => x _ _ _ (by decide) (by decide) (by decide)) (fun a j _ _ => x _ _ _ (by decide) (by decide) (by decide))⟩, by rw [(F.2.2.1 0 0 4 B.1.1.1 (x _ _ _ (by decide) (by decide) (by decide))).1]; exact er, p1.fr H F (fun k => x _ _ _ (by decide) (by decide) (by decide)), p2.fr H F (fun k => x _ _ _ (by decide) (by decide) (by decide)) (fun k => x _ _ _ (by decide) (by decide) (by decide)), qa, g, G⟩
def personA (S : Sta) (b : Bool) (x y z : Int32) : Int32 × Sta := if x = -1 ∧ y = -1 then (match asP (tL S).length z with
  | none => (-1, S)
  | some s => if (tP S).1 < 100 then (nI (tP S).1, setP S ((tP S).1 + 1, upf (tP S).2.1 (tP S).1 b, upf (tP S).2.2.1 (tP S).1 none, upf (tP S).2.2.2.1 (tP S).1 s, upf (tP S).2.2.2.2 (tP S).1 none)) else (-1, S)) else (match chO (tP S).1 (tP S).2.1 (tP S).2.2.2.2 x y with
  | none => (-1, S)
  | some fm => (nI (tP S).1, setP S ((tP S).1 + 1, upf (tP S).2.1 (tP S).1 b, upf (tP S).2.2.1 (tP S).1 (some fm), upf (tP S).2.2.2.1 (tP S).1 0, upf (tP S).2.2.2.2 (tP S).1 none)))
theorem C109 {b : Bool} {x y z : Int32} (V : StV S) (R : RepC S h) (k : ∀ h', RepC (personA S b x y z).2 h' → Gr h h' → K (personA S b x y z).1 h') : CI (d + 3) 109 [vR 10 (some 0), vI (bi b), vI x, vI y, vI z] h K := by
  intro P hP
  obtain ⟨H, T, ⟨si, Q⟩, -, -, -, -, qa, g, G⟩ := id R
  have h31 : 31 ≤ jN h 21 := H.1.2.2.2.2.2
  have kid : ¬ (x = -1 ∧ y = -1) → CI (d + 2) 46 [vR 6 (some 0), vI (bi b), vI x, vI y] h (fun x3 h2 => (fun v h' => ∃ x, v = some (vI x) ∧ K x h') (some (vI x3)) h2) := fun c => by
    unfold personA at k
    rw [if_neg c] at k
    refine s46 V.2.2.2.2.2 G h31 (fun e => ⟨_, rfl, ?_⟩) (fun f m e _ _ _ _ _ h' F G' => ⟨_, rfl, ?_⟩)
    · rw [e] at k; exact k h R (Gr.rf h)
    · rw [e] at k; exact k h' (R.p F G') (F.gr (by decide) (by decide))
  refine v109 hP 0 (bi b) x y z h ⟨fun c => dr_of H.2.2.2.1.2.2.2.2.2.2.2 (kid (fun w => c w.1)), fun c => ⟨fun c2 => ?_, fun c2 => dr_of H.2.2.2.1.2.2.2.2.2.2.2 (kid (fun w => c2 w.2))⟩⟩
  unfold personA at k
  rw [if_pos ⟨Classical.not_not.mp c, c2⟩] at k
  refine s96 H Q V.2.2.1 (fun e => ⟨fun c => absurd rfl c, fun _ => ⟨_, rfl, ?_⟩⟩) (fun j sh e e2 => ⟨fun _ => dr_of H.2.2.2.1.2.2.2.2.2.2.2 ?_, fun c => absurd (fun w => by cases w) c⟩)
  · rw [e] at k; exact k h R (Gr.rf h)
  · rw [e] at k
    dsimp only at k
    rw [(asP_v (by have := V.2.2.1; omega) e).2]
    refine s48 V.2.2.2.2.2 G h31 (fun c3 => ⟨_, rfl, ?_⟩) (fun c3 h' F G' => ⟨_, rfl, ?_⟩)
    · rw [if_neg c3] at k; exact k h R (Gr.rf h)
    · rw [if_pos c3] at k; exact k h' (R.p F G') (F.gr (by decide) (by decide))
def marryA (S : Sta) (x y : Int32) : Int32 × Sta := match jnO (tP S).1 (tP S).2.1 (tP S).2.2.2.2 x y with
  | none => (0, S)
  | some ab => (1, setP S ((tP S).1, (tP S).2.1, (tP S).2.2.1, (tP S).2.2.2.1, upf (upf (tP S).2.2.2.2 ab.1 (some ab.2)) ab.2 (some ab.1)))
theorem C110 {x y : Int32} (V : StV S) (R : RepC S h) (k : ∀ h', RepC (marryA S x y).2 h' → Gr h h' → K (marryA S x y).1 h') : CI (d + 3) 110 [vR 10 (some 0), vI x, vI y] h K := by
  intro P hP
  obtain ⟨H, T, -, -, -, -, -, qa, g, G⟩ := id R
  unfold marryA at k
  refine v110 hP 0 x y h (dr_of H.2.2.2.1.2.2.2.2.2.2.2 (s49 V.2.2.2.2.2 G (fun e => ⟨rfl, _, rfl, ?_⟩) (fun a b e _ _ _ _ _ _ h' F G' => ⟨rfl, _, rfl, ?_⟩)))
  · rw [e] at k; exact k h R (Gr.rf h)
  · rw [e] at k; exact k h' (R.p F G') (F.gr (by decide) (by decide))
def familyA (S : Sta) (x w : Int32) : Int32 := match asP (tP S).1 x with
  | none => -1
  | some p => faS (tP S).2.1 (tP S).2.2.1 (tP S).2.2.2.1 (tP S).2.2.2.2 (tP S).1 p w
theorem C111 {x w : Int32} (V : StV S) (R : RepC S h) (k : ∀ h', RepC S h' → Gr h h' → K (familyA S x w) h') : CI (d + 6) 111 [vR 10 (some 0), vI x, vI w] h K := by
  intro P hP
  obtain ⟨H, T, ⟨si, Q⟩, ⟨pk, dr, B⟩, er, p1, p2, qa, g, G⟩ := id R
  have hn : (tP S).1 ≤ 100 := V.2.2.2.2.2.1
  unfold familyA at k
  refine v111 hP 0 x w h (dr_of H.2.2.2.1.2.2.2.2.2.2.2 (s50 V.2.2.2.2.2 G (fun hno => ⟨_, rfl, ?_⟩) (fun p hp e h' g' E G' => ⟨_, rfl, ?_⟩)))
  · rw [asP_n (by omega) hno] at k; exact k h R (Gr.rf h)
  · rw [asP_s (by omega) hp e] at k
    have F := E.fr
    have x : ∀ t a k, t ≠ 5 → t ≠ 21 → t ≠ 6 → ¬ XG (tP S).1 qa t a k := fun t a k h1 h2 h3 z => by
      rcases z with z | z | z
      · exact h1 z.1
      · exact h2 z.1
      · exact h3 z.1
    have x21 : ∀ a k, a < 31 ∨ ¬ jLen h 21 a = 32 → ¬ XG (tP S).1 qa 21 a k := fun a k h1 z => by
      rcases z with z | z | z
      · cases z.1
      · obtain ⟨i, hi, e⟩ := z.2
        have g1 := G.1.2.2.2.2.2.2.1 i hi
        have g2 := (G.1.2.2.2.2.2.1 i hi).2.2.2.2.2.2.2.2.2.2.2
        rw [← e] at g1 g2
        omega
      · cases z.1
    refine k h' ⟨H.fr F (fun k _ _ => x _ _ _ (by decide) (by decide) (by decide)) (fun k => x _ _ _ (by decide) (by decide) (by decide)) (fun k => x _ _ _ (by decide) (by decide) (by decide)), T.fr H F (x _ _ _ (by decide) (by decide) (by decide)) (fun j => x _ _ _ (by decide) (by decide) (by decide)), ⟨si, Q.fr H F (x _ _ _ (by decide) (by decide) (by decide)) (fun k => x _ _ _ (by decide) (by decide) (by decide)) (fun a k => x _ _ _ (by decide) (by decide) (by decide)) (fun a k _ h2 => x21 a k (Or.inr (by omega))) (fun a k => x _ _ _ (by decide) (by decide) (by decide)) (fun a k => x _ _ _ (by decide) (by decide) (by decide))⟩, ⟨pk, dr, B.fr F (fun j _ => x _ _ _ (by decide) (by decide) (by decide)) (fun j => x _ _ _ (by decide) (by decide) (by decide)) (fun a j => x _ _ _ (by decide) (by decide) (by decide)) (fun a j h1 _ => x21 a j (Or.inl h1))⟩, ?_, p1.fr H F (fun k => x _ _ _ (by decide) (by decide) (by decide)), p2.fr H F (fun k => x _ _ _ (by decide) (by decide) (by decide)) (fun k => x _ _ _ (by decide) (by decide) (by decide)), qa, g', G'⟩ (F.gr (by decide) (by decide))
    rw [(F.2.2.1 0 0 4 B.1.1.1 (x _ _ _ (by decide) (by decide) (by decide))).1]; exact er
end
