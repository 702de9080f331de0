/-! the class's points; the reference's write, person, marry, family; the state stays valid -/
theorem s101h {d a t n : Nat} {h : Hp} {K : Int32 → Hp → Prop} (hn : jLen h 21 a = n) (hl : n < 2 ^ 20) (ht : t < n) (k : K (jI h 21 a t) h) : CI (d + 1) 101 [vR 21 (some a), vI (nI t)] h K := by
  intro P hP
  have it : ix (nI t) = t := nI_clamp (by omega)
  refine v101 hP (some a) (nI t) h ⟨fun c => absurd c (nI_pos (by omega)), fun _ => ⟨fun c => absurd (by rw [hn] at c; exact c) (nI_ge ht (by omega)), fun _ => ⟨by rw [hn]; exact vp_in_nI ht (by omega), _, rfl, ?_⟩⟩⟩
  rw [it]; exact k
def X7 (s : Nat) : Nat → Nat → Nat → Prop := fun t a k => t = 7 ∧ a = s ∧ k = 4
theorem ShC.pts {h h' : Hp} {c z j : Nat} {L : List (Nat → Int32)} {si : Nat → Nat} {sh : Nat → Int32} (Q : ShC h L si) (H : CsH h) (F : Fr (X7 (si j)) c z h h') (hj : L[j]? = some sh) (N : PoC h' (si j) sh) : ShC h' L si := by
  obtain ⟨⟨a1, a2, a3, a4, a5, a6⟩, -⟩ := H
  have x : ∀ t a k, t ≠ 7 → ¬ X7 (si j) t a k := fun t a k h1 z => h1 z.1
  refine ⟨by rw [(F.2.2.1 10 0 3 a1 (x _ _ _ (by decide))).1]; exact Q.1, fun k sk e => ?_, Q.2.2⟩
  obtain ⟨q1, pa, q2, q3⟩ := Q.2.1 k sk e
  refine ⟨?_, pa, q2.fr2 F (fun a k => x _ _ _ (by decide)) (fun a k _ _ => x _ _ _ (by decide)) (fun k hk z => by have := z.2.2; omega) (fun k => x _ _ _ (by decide)), ?_⟩
  · rw [(F.2.2.1 37 0 k a5 (x _ _ _ (by decide))).2.1]; exact q1
  · by_cases y : k = j
    · subst y
      rw [hj] at e
      have e2 : sh = sk := Option.some.inj e
      rw [← e2]
      exact N
    · have hk := (List.getElem?_eq_some_iff.mp e).1
      have hj2 := (List.getElem?_eq_some_iff.mp hj).1
      have hne : si k ≠ si j := by
        rcases Nat.lt_or_ge k j with w | w
        · have := Q.2.2 k j w hj2; omega
        · have := Q.2.2 j k (by omega) hk; omega
      exact q3.fr q2.1 F (fun a k _ _ => x _ _ _ (by decide)) (fun z => hne z.2.1)
section
variable {d : Nat} {S : Sta} {K : Int32 → Hp → Prop} {h : Hp}
theorem C107 {x y : Int32} (V : StV S) (R : RepC S h) (k : ∀ h', RepC S h' → Gr h h' → K (pointsA S x y) h') : CI (d + 8) 107 [vR 10 (some 0), vI x, vI y] h K := by
  intro P hP
  obtain ⟨H, T, ⟨si, Q⟩, ⟨pk, dr, B⟩, er, p1, p2, qa, g, G⟩ := id R
  have h31 : 31 ≤ jN h 21 := H.1.2.2.2.2.2
  have no : pointsA S x y = -1 → K (-1) h := fun e => by
    have := k h R (Gr.rf h)
    rw [e] at this
    exact this
  have n9 : y < 0 ∨ ¬ y < 9 → asP 9 y = none := fun c => asP_n (by decide) (fun i hi z => by
    rcases c with c | c
    · rw [z] at c; exact nI_pos (by omega) c
    · rw [z] at c; exact c (nI_lt (b := 9) hi (by decide)))
  have no9 : asP 9 y = none → pointsA S x y = -1 := fun e => by
    unfold pointsA
    rw [e]
    cases shA (tL S) x <;> rfl
  refine v107 hP 0 x y h (s96 H Q V.2.2.1 (fun e => ⟨fun _ => ⟨_, rfl, no ?_⟩, fun c => absurd rfl c⟩) (fun j sh e e2 => ⟨(fun z => by cases z), fun _ => ⟨fun c => ⟨_, rfl, no (no9 (n9 (Or.inl c)))⟩, fun c => ⟨fun c2 => ?_, fun c2 => ⟨_, rfl, no (no9 (n9 (Or.inr c2)))⟩⟩⟩⟩))
  · unfold pointsA; rw [shA_n e]
  · obtain ⟨t, t1, t2⟩ := nI_of c
    have ht : t < 9 := by
      rw [t2] at c2
      rcases Nat.lt_or_ge t 9 with z | z
      · exact z
      · exact absurd c2 (nI_nlt (b := 9) z t1)
    have hp : pointsA S x y = nI (cY sh t 72) := by
      unfold pointsA
      rw [shA_s e e2, asP_s (by decide) ht t2]
    rw [hp] at k
    obtain ⟨-, pa, q, o⟩ := Q.2.1 j sh e2
    have A := V.2.2.2.1 sh (List.mem_of_getElem? e2)
    rw [t2]
    refine ⟨fun c3 => ?_, fun c3 => ?_⟩
    · rcases o with o | ⟨qq, o1, o2, o3, o4, o5⟩
      · exact absurd o c3
      · show CI _ 101 [vR 21 (jR h 7 (si j) 4), vI (nI t)] h _
        rw [o1]
        refine s101h o4 (by decide) ht ⟨_, rfl, ?_⟩
        rw [o5 t ht]
        exact k h R (Gr.rf h)
    · refine CR.of ?_ (CR.n5 (by decide) (s225 (K := fun x8 g => x8 = some (jN h 21) ∧ PoI h g (fun t => cY sh t 72)) q A.1 A.2.2.2.1 (fun g I => ⟨rfl, I⟩)))
      rintro x8 g1 ⟨⟨rfl, I⟩, n5⟩
      refine dr_of rfl (dr_of rfl ?_)
      rw [jR_same]
      have F : Fr (X7 (si j)) 1 9 h (wR g1 7 (si j) 4 (some (jN h 21))) := (I.1.xe (X7 (si j))).wR _ (Or.inr ⟨rfl, rfl, rfl⟩)
      refine s101h I.2.2.1 (by decide) ht ⟨_, rfl, ?_⟩
      have ev : jI (wR g1 7 (si j) 4 (some (jN h 21))) 21 (jN h 21) t = nI (cY sh t 72) := I.2.2.2 t ht
      rw [ev]
      have x : ∀ t a k, t ≠ 7 → ¬ X7 (si j) t a k := fun t a k h1 z => h1 z.1
      refine k _ ⟨H.fr F (fun k _ _ => x _ _ _ (by decide)) (fun k => x _ _ _ (by decide)) (fun k => x _ _ _ (by decide)), T.fr H F (x _ _ _ (by decide)) (fun j => x _ _ _ (by decide)), ⟨si, Q.pts H F e2 (Or.inr ⟨jN h 21, jR_same .., h31, I.2.1, I.2.2.1, I.2.2.2⟩)⟩, ⟨pk, dr, B.fr F (fun j _ => x _ _ _ (by decide)) (fun j => x _ _ _ (by decide)) (fun a j => x _ _ _ (by decide)) (fun a j _ _ => x _ _ _ (by decide))⟩, ?_, p1.fr H F (fun k => x _ _ _ (by decide)), p2.fr H F (fun k => x _ _ _ (by decide)) (fun k => x _ _ _ (by decide)), qa, g, G.fr F n5 (fun k => x _ _ _ (by decide)) (fun k => x _ _ _ (by decide)) (fun a k => x _ _ _ (by decide)) (fun a k _ _ => x _ _ _ (by decide))⟩ (F.gr (by decide) (by decide))
      rw [(F.2.2.1 0 0 4 B.1.1.1 (x _ _ _ (by decide))).1]; exact er
/-! the reference -/
theorem D158 {x : Int32} (V : StV S) (R : RepR S h) (k : ∀ h', RepR (writeA S x).2 h' → jC h' = jC h → jZ h' = jZ h → K (writeA S x).1 h') : CI (d + 6) 158 [vR 11 (some 0), vI x] h K := by
  obtain ⟨r1, r2, r3, r4, r5, r6, r7, r8, r9, r10⟩ := id R
  have hl := V.2.2.1
  unfold writeA at k
  cases e : asP (tL S).length x with
  | none =>
    rw [shA_n e] at k
    exact s158n (d := d + 4) r4 hl (asP_no (by omega) e) (k h R rfl rfl)
  | some j =>
    obtain ⟨hj, ej⟩ := asP_v (by omega) e
    have hg : (tL S)[j]? = some (tL S)[j] := List.getElem?_eq_getElem hj
    rw [shA_s e hg] at k
    rw [ej]
    have A := V.2.2.2.1 _ (List.mem_of_getElem? hg)
    refine s158 r1 r4 hl hj (r5 j _ hg) A.1 A.2.1 A.2.2.1 A.2.2.2.2.2 (fun h' E W => k h' ?_ E.2.2.2.2.1 E.2.2.2.2.2.1)
    have x : ∀ t a k, t ≠ 22 → t ≠ 11 → ¬ XV t a k := fun t a k h1 h2 z => by
      rcases z with z | z
      · exact h1 z.1
      · exact h2 z.1
    have x11 : ∀ k, k ≠ 17 → ¬ XV 11 0 k := fun k h1 z => by
      rcases z with z | z
      · cases z.1
      · exact h1 z.2.2
    have x22 : ∀ j, ¬ XV 22 0 j := fun j z => by
      rcases z with z | z
      · cases z.2
      · cases z.1
    refine ⟨E.sh r1, ?_, fun j hj => ?_, ?_, fun k sh e => ?_, fun o ho => ?_, ?_, W, ?_, ?_⟩
    · rw [E.I (x11 1 (by decide))]; exact r2
    · rw [E.I (x22 j)]; exact r3 j hj
    · rw [E.I (x11 11 (by decide))]; exact r4
    · exact (r5 k sh e).eqX E (fun a k _ => x _ _ _ (by decide) (by decide))
    · exact (r6 o ho).eqX E (fun a k _ _ => x _ _ _ (by decide) (by decide))
    · exact r7.eqX E (fun a k _ _ => x _ _ _ (by decide) (by decide))
    · rw [E.I (x11 32 (by decide))]; exact r9
    · exact r10.eq E (x11 40 (by decide)) (fun i => x _ _ _ (by decide) (by decide)) (fun a i _ _ => x _ _ _ (by decide) (by decide))
theorem RepR.p {h' : Hp} {p : Pst} (R : RepR S h) (E : EqX XPe h h') (G : PeR h' p.1 p.2.1 p.2.2.1 p.2.2.2.1 p.2.2.2.2) : RepR (setP S p) h' := by
  obtain ⟨r1, r2, r3, r4, r5, r6, r7, r8, r9, r10⟩ := R
  have x11 : ∀ k, k ≠ 40 → ¬ XPe 11 0 k := fun k h1 z => by
    rcases z with z | z | z
    · cases z.1
    · cases z.1
    · exact h1 z.2.2
  have x22 : ∀ a j, ¬ XPe 22 a j := fun a j z => by
    rcases z with z | z | z
    · cases z.1
    · cases z.1
    · cases z.1
  have x21 : ∀ a k, a ≤ 11 → ¬ XPe 21 a k := fun a k h1 z => by
    rcases z with z | z | z
    · cases z.1
    · omega
    · cases z.1
  refine ⟨E.sh r1, ?_, fun j hj => ?_, ?_, fun k sh e => ?_, fun o ho => ?_, ?_, ?_, ?_, G⟩
  · rw [E.I (x11 1 (by decide))]; exact r2
  · rw [E.I (x22 0 j)]; exact r3 j hj
  · rw [E.I (x11 11 (by decide))]; exact r4
  · exact (r5 k sh e).eqX E (fun a k h1 => x21 a k (by omega))
  · exact (r6 o ho).eqX E (fun a k _ h2 => x21 a k h2)
  · exact r7.eqX E (fun a k _ h2 => x21 a k h2)
  · exact r8.eqX E (x11 17 (by decide)) (fun j => x22 2 j)
  · rw [E.I (x11 32 (by decide))]; exact r9
theorem D205 {b : Bool} {x y z : Int32} (V : StV S) (R : RepR S h) (k : ∀ h', RepR (personA S b x y z).2 h' → jC h' = jC h → jZ h' = jZ h → K (personA S b x y z).1 h') : CI (d + 2) 205 [vR 11 (some 0), vI (bi b), vI x, vI y, vI z] h K := by
  obtain ⟨r1, r2, r3, r4, r5, r6, r7, r8, r9, r10⟩ := id R
  unfold personA at k
  refine s205 r1 V.2.2.2.2.2 r10 r4 V.2.2.1 (fun hx hy e => ?_) (fun hx hy c => ?_) (fun s hx hy e c h' E G => ?_) (fun c e => ?_) (fun f m c e h' E G => ?_)
  · rw [if_pos ⟨hx, hy⟩, e] at k; exact k h R rfl rfl
  · rw [if_pos ⟨hx, hy⟩] at k
    cases e : asP (tL S).length z with
    | none => rw [e] at k; exact k h R rfl rfl
    | some s =>
      rw [e] at k
      dsimp only at k
      rw [if_neg c] at k
      exact k h R rfl rfl
  · rw [if_pos ⟨hx, hy⟩, e] at k
    dsimp only at k
    rw [if_pos c] at k
    exact k h' (R.p E G) E.2.2.2.2.1 E.2.2.2.2.2.1
  · rw [if_neg c, e] at k; exact k h R rfl rfl
  · rw [if_neg c, e] at k; exact k h' (R.p E G) E.2.2.2.2.1 E.2.2.2.2.2.1
theorem D207 {x y : Int32} (V : StV S) (R : RepR S h) (k : ∀ h', RepR (marryA S x y).2 h' → jC h' = jC h → jZ h' = jZ h → K (marryA S x y).1 h') : CI (d + 2) 207 [vR 11 (some 0), vI x, vI y] h K := by
  obtain ⟨r1, r2, r3, r4, r5, r6, r7, r8, r9, r10⟩ := id R
  unfold marryA at k
  refine s207 r1 V.2.2.2.2.2 r10 (fun e => ?_) (fun a b e h' E G => ?_)
  · rw [e] at k; exact k h R rfl rfl
  · rw [e] at k; exact k h' (R.p E G) E.2.2.2.2.1 E.2.2.2.2.2.1
theorem D208 {x w : Int32} (V : StV S) (R : RepR S h) (k : ∀ h', RepR S h' → jC h' = jC h → jZ h' = jZ h → K (familyA S x w) h') : CI (d + 3) 208 [vR 11 (some 0), vI x, vI w] h K := by
  obtain ⟨r1, r2, r3, r4, r5, r6, r7, r8, r9, r10⟩ := id R
  have hn : (tP S).1 ≤ 100 := V.2.2.2.2.2.1
  unfold familyA at k
  refine s208 r1 V.2.2.2.2.2 r10 (fun hno => ?_) (fun p hp e h' E => ?_)
  · rw [asP_n (by omega) hno] at k; exact k h R rfl rfl
  · rw [asP_s (by omega) hp e] at k
    refine k h' ?_ E.2.2.2.2.1 E.2.2.2.2.2.1
    refine R.eqr (r := tR S) E ?_ (fun k hk z => by cases z.1) (fun j => ⟨(fun z => by cases z.1), (fun z => by cases z.1)⟩) (fun j z => by cases z.1) (fun a k ha z => by rcases z.2 with y | y <;> omega)
    rw [E.I (fun z => by cases z.1)]; exact r9
/-! the state stays valid -/
theorem V_write {x : Int32} (V : StV S) : StV (writeA S x).2 := by
  unfold writeA
  split
  · exact V
  · exact V
theorem V_r {r : Int32} (V : StV S) : StV (setR S r) := V
theorem V_person {b : Bool} {x y z : Int32} (V : StV S) : StV (personA S b x y z).2 := by
  obtain ⟨v1, v2, v3, v4, v5, v6⟩ := id V
  unfold personA
  split
  · split
    · exact V
    · rename_i s e
      split
      · rename_i c
        exact ⟨v1, v2, v3, v4, v5, PsV.add v6 c (fun f m w => by cases w) (fun _ => (asP_v (by omega) e).1)⟩
      · exact V
  · split
    · exact V
    · rename_i fm e
      obtain ⟨f, m⟩ := fm
      have hn : (tP S).1 ≤ 100 := v6.1
      have hc : f < (tP S).1 ∧ m < (tP S).1 ∧ (tP S).1 < 100 ∧ (tP S).2.1 f = true ∧ (tP S).2.2.2.2 f = some m := by
        unfold chO at e
        split at e
        · rename_i f' m' e1 e2
          split at e
          · rename_i c
            have e3 := Option.some.inj e
            have e4 : f' = f := congrArg Prod.fst e3
            have e5 : m' = m := congrArg Prod.snd e3
            subst e4 e5
            exact ⟨(asP_v (by omega) e1).1, (asP_v (by omega) e2).1, c.1, c.2.1, c.2.2⟩
          · cases e
        · cases e
      obtain ⟨h1, h2, h3, h4, h5⟩ := hc
      have hm := v6.2.2.2.2 f h1 m h5
      rw [h4] at hm
      exact ⟨v1, v2, v3, v4, v5, PsV.add v6 h3 (fun f' m' w => by cases w; exact ⟨h1, h2, h4, hm.2.2, h5⟩) (fun w => by cases w)⟩
theorem V_marry {x y : Int32} (V : StV S) : StV (marryA S x y).2 := by
  obtain ⟨v1, v2, v3, v4, v5, v6⟩ := id V
  unfold marryA
  split
  · exact V
  · rename_i ab e
    obtain ⟨a, b⟩ := ab
    have hn : (tP S).1 ≤ 100 := v6.1
    unfold jnO at e
    split at e
    · rename_i a' b' e1 e2
      split at e
      · rename_i c
        have e3 := Option.some.inj e
        have e4 : a' = a := congrArg Prod.fst e3
        have e5 : b' = b := congrArg Prod.snd e3
        subst e4 e5
        exact ⟨v1, v2, v3, v4, v5, PsV.join v6 (asP_v (by omega) e1).1 (asP_v (by omega) e2).1 c.1 c.2.1 c.2.2.1 c.2.2.2⟩
      · cases e
    · cases e
end
