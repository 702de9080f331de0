/-! the reference's calls that leave the state: look, point, points, differ, octet, chosen, ran, count; judge, part -/
def setR (S : Sta) (r : Int32) : Sta := (S.1, S.2.1, S.2.2.1, S.2.2.2.1, r, S.2.2.2.2.2)
theorem RpG.eqX {X : Nat → Nat → Nat → Prop} {h h' : Hp} {o m : Nat} {D : List Bod} (Q : RpG h o D m) (E : EqX X h h') (hX : ∀ a k, 4 ≤ a → a ≤ 11 → ¬ X 21 a k) : RpG h' o D m := by
  obtain ⟨q1, q2, q3, q4, q5, q6⟩ := Q
  have f := fun a k h1 h2 => E.I (hX a k h1 h2)
  refine ⟨q1, q2, ?_, ?_, fun i b e => ?_, fun j x e => ?_⟩
  · rw [f 4 o (by decide) (by decide)]; exact q3
  · rw [f 5 o (by decide) (by decide)]; exact q4
  · rw [f 6 _ (by decide) (by decide), f 7 _ (by decide) (by decide), f 8 _ (by decide) (by decide), f 9 _ (by decide) (by decide)]; exact q5 i b e
  · rw [f 10 _ (by decide) (by decide), f 11 _ (by decide) (by decide)]; exact q6 j x e
theorem RnC.eqX {X : Nat → Nat → Nat → Prop} {h h' : Hp} {W : List Int32} (Q : RnC h W) (E : EqX X h h') (x11 : ¬ X 11 0 17) (x22 : ∀ j, ¬ X 22 2 j) : RnC h' W := by
  obtain ⟨q1, q2, q3, q4⟩ := Q
  exact ⟨q1, by rw [E.I x11]; exact q2, fun i x e => by rw [E.I (x22 i)]; exact q3 i x e, q4⟩
theorem RepR.eqr {X : Nat → Nat → Nat → Prop} {S : Sta} {h h' : Hp} {r : Int32} (R : RepR S h) (E : EqX X h h') (e32 : jI h' 11 0 32 = r) (x11 : ∀ k, k = 1 ∨ k = 11 ∨ k = 17 ∨ k = 40 → ¬ X 11 0 k) (x22 : ∀ j, ¬ X 22 0 j ∧ ¬ X 22 2 j) (x24 : ∀ j, ¬ X 24 0 j) (x21 : ∀ a k, a ≤ 11 ∨ (18 ≤ a ∧ a ≤ 21) → ¬ X 21 a k) : RepR (setR S r) h' := by
  obtain ⟨r1, r2, r3, r4, r5, r6, r7, r8, r9, r10⟩ := R
  refine ⟨E.sh r1, ?_, fun j hj => ?_, ?_, fun k sh e => ?_, fun o ho => ?_, ?_, ?_, e32, ?_⟩
  · rw [E.I (x11 1 (by decide))]; exact r2
  · rw [E.I (x22 j).1]; exact r3 j hj
  · rw [E.I (x11 11 (by decide))]; exact r4
  · exact (r5 k sh e).eqX E (fun a k ha => x21 a k (Or.inl (by omega)))
  · exact (r6 o ho).eqX E (fun a k h1 h2 => x21 a k (Or.inl h2))
  · exact r7.eqX E (fun a k h1 h2 => x21 a k (Or.inl h2))
  · exact r8.eqX E (x11 17 (by decide)) (fun j => (x22 j).2)
  · exact r10.eq E (x11 40 (by decide)) x24 (fun a i h1 h2 => x21 a i (Or.inr ⟨h1, h2⟩))
section
variable {d : Nat} {S : Sta} {h : Hp} {K : Int32 → Hp → Prop}
theorem D168 {x w : Int32} (V : StV S) (R : RepR S h) (k : K (lookA S x w) h) : CI (d + 3) 168 [vR 11 (some 0), vI x, vI w] h K := by
  obtain ⟨r1, r2, r3, r4, r5, -⟩ := R
  have hl := V.2.2.1
  unfold lookA at k
  cases e : asP (tL S).length x with
  | none =>
    rw [shA_n e] at k
    exact s168n (d := d + 1) r4 hl (asP_no (by omega) e) k
  | some j =>
    obtain ⟨hj, ej⟩ := asP_v (by omega) e
    have hg : (tL S)[j]? = some (tL S)[j] := List.getElem?_eq_getElem hj
    rw [shA_s e hg] at k
    rw [ej]
    exact s168 r1 r4 hl hj (r5 j _ hg) k
theorem D195 {x y w : Int32} (V : StV S) (R : RepR S h) (k : K (pointA S x y w) h) : CI (d + 5) 195 [vR 11 (some 0), vI x, vI y, vI w] h K := by
  obtain ⟨r1, r2, r3, r4, r5, -⟩ := R
  have hl := V.2.2.1
  unfold pointA at k
  cases e : asP (tL S).length x with
  | none =>
    rw [shA_n e] at k
    exact s195n (d := d + 3) r4 hl (asP_no (by omega) e) k
  | some j =>
    obtain ⟨hj, ej⟩ := asP_v (by omega) e
    have hg : (tL S)[j]? = some (tL S)[j] := List.getElem?_eq_getElem hj
    rw [shA_s e hg] at k
    rw [ej]
    exact s195 r1 r4 hl hj (r5 j _ hg) (V.2.2.2.1 _ (List.mem_of_getElem? hg)).1 k
def pointsA (S : Sta) (x y : Int32) : Int32 := match shA (tL S) x, asP 9 y with
  | some sh, some t => nI (cY sh t 72)
  | _, _ => -1
theorem D204 {x y : Int32} (V : StV S) (R : RepR S h) (k : K (pointsA S x y) h) : CI (d + 6) 204 [vR 11 (some 0), vI x, vI y] h K := by
  obtain ⟨r1, r2, r3, r4, r5, -⟩ := R
  have hl := V.2.2.1
  unfold pointsA at k
  cases e : asP (tL S).length x with
  | none =>
    rw [shA_n e] at k
    exact s204n (d := d + 4) r4 hl (Or.inl (asP_no (by omega) e)) k
  | some j =>
    obtain ⟨hj, ej⟩ := asP_v (by omega) e
    have hg : (tL S)[j]? = some (tL S)[j] := List.getElem?_eq_getElem hj
    rw [shA_s e hg] at k
    cases e2 : asP 9 y with
    | none =>
      rw [e2] at k
      refine s204n (d := d + 4) r4 hl (Or.inr ?_) k
      by_cases z : y < 0
      · exact Or.inl z
      · refine Or.inr (fun y8 => ?_)
        obtain ⟨i, hi, ei⟩ := nI_of2 (M := 8) (n := 8) (by decide) z y8
        exact asP_no (by decide) e2 i (by omega) ei
    | some t =>
      rw [e2] at k
      obtain ⟨ht, et⟩ := asP_v (by decide) e2
      rw [ej, et]
      exact s204 r1 r4 hl hj (r5 j _ hg) (V.2.2.2.1 _ (List.mem_of_getElem? hg)).1 ht k
theorem D173 {x y : Int32} (V : StV S) (R : RepR S h) (k : K (differA S x y) h) : CI (d + 3) 173 [vR 11 (some 0), vI x, vI y] h K := by
  obtain ⟨r1, r2, r3, r4, r5, -⟩ := R
  have hl := V.2.2.1
  unfold differA at k
  cases e : asP (tL S).length x with
  | none =>
    rw [shA_n e] at k
    exact s173n (d := d + 1) r4 hl (Or.inl (asP_no (by omega) e)) k
  | some j =>
    obtain ⟨hj, ej⟩ := asP_v (by omega) e
    have hg : (tL S)[j]? = some (tL S)[j] := List.getElem?_eq_getElem hj
    rw [shA_s e hg] at k
    cases e2 : asP (tL S).length y with
    | none =>
      rw [shA_n e2] at k
      exact s173n (d := d + 1) r4 hl (Or.inr (asP_no (by omega) e2)) k
    | some i =>
      obtain ⟨hi, ei⟩ := asP_v (by omega) e2
      have hg2 : (tL S)[i]? = some (tL S)[i] := List.getElem?_eq_getElem hi
      rw [shA_s e2 hg2] at k
      rw [ej, ei]
      exact s173 r1 r4 hl hj hi (r5 j _ hg) (r5 i _ hg2) k
theorem D167 {x : Int32} (R : RepR S h) (k : K (ocS (tW S) x) h) : CI (d + 1) 167 [vR 11 (some 0), vI x] h K := by
  obtain ⟨r1, r2, r3, r4, r5, r6, r7, r8, -⟩ := R
  exact s167 r1 r8 k
theorem D194 (R : RepR S h) (k : K (tR S) h) : CI (d + 1) 194 [vR 11 (some 0)] h K := by
  obtain ⟨r1, r2, r3, r4, r5, r6, r7, r8, r9, -⟩ := R
  refine s194 ?_
  rw [r9]; exact k
theorem D212 {x : Int32} (R : RepR S h) (k : K (countA S x) h) : CI (d + 1) 212 [vR 11 (some 0), vI x] h K := by
  intro P hP
  obtain ⟨r1, r2, r3, r4, r5, r6, r7, r8, r9, r10⟩ := R
  unfold countA at k
  refine v212 hP 0 x h ⟨fun c => ⟨fun c1 => ⟨fun c2 => ⟨fun c3 => ⟨_, rfl, ?_⟩, fun c3 => ⟨fun c4 => ⟨_, rfl, ?_⟩, fun c4 => ?_⟩⟩, fun c2 => ⟨_, rfl, ?_⟩⟩, fun c1 => ⟨_, rfl, ?_⟩⟩, fun c => ⟨_, rfl, ?_⟩⟩
  · rw [if_neg c, if_neg c1, if_neg c2, if_pos c3] at k; exact k
  · rw [if_neg c, if_neg c1, if_neg c2, if_neg c3, if_pos c4] at k; exact k
  · rw [if_neg c, if_neg c1, if_neg c2, if_neg c3, if_neg c4] at k
    obtain ⟨o, h1, h2, h3⟩ := x37 c3 c4
    rw [h3] at k
    refine dr_of r1.r18 ⟨by rw [h2, r1.n18]; exact vp_in_nI (by omega) (by decide), _, rfl, ?_⟩
    rw [h3, (r6 o h1).2.2.1]
    exact k
  · rw [if_neg c, if_neg c1, if_pos (Classical.not_not.mp c2)] at k
    rw [r2]; exact k
  · rw [if_neg c, if_pos (Classical.not_not.mp c1)] at k
    rw [r10.1]; exact k
  · rw [if_pos (Classical.not_not.mp c)] at k
    rw [r4]; exact k
theorem chs_n {Do Dc : List Bod} {r a : Nat} : ∀ {m s : Nat}, (∀ t, s ≤ t → t < s + m → sfS Do Dc r a t = none) → chsS Do Dc r a s m = -1
  | 0, _, _ => rfl
  | m + 1, s, h => by
    unfold chsS
    rw [h s (Nat.le_refl _) (by omega)]
    exact chs_n (fun t h1 h2 => h t (by omega) (by omega))
theorem chs_s {Do Dc : List Bod} {r a u : Nat} {b : Bod} (hu : sfS Do Dc r a u = some b) : ∀ {m s : Nat}, s ≤ u → u < s + m → (∀ t, s ≤ t → t < u → sfS Do Dc r a t = none) → chsS Do Dc r a s m = tnI (fmI (u / 2) a) + (if u % 2 = 0 then 32 else 0)
  | 0, _, h1, h2, _ => by omega
  | m + 1, s, h1, h2, h => by
    unfold chsS
    by_cases z : s = u
    · rw [z, hu]
    · rw [h s (Nat.le_refl _) (by omega)]
      exact chs_s hu (by omega) (by omega) (fun t h3 h4 => h t (by omega) h4)
def Xt : Nat → Nat → Nat → Prop := fun t a k => t = 11 ∧ a = 0 ∧ (k = 29 ∨ k = 30 ∨ k = 31)
theorem tkH_eq (h : Hp) (k b i : Int32) : EqX Xt h (tkH h k b i) := (((EqX.refl _ h).wI _ ⟨rfl, rfl, Or.inl rfl⟩).wI _ ⟨rfl, rfl, Or.inr (Or.inr rfl)⟩).wI _ ⟨rfl, rfl, Or.inr (Or.inl rfl)⟩
theorem RepR.t {h' : Hp} (R : RepR S h) (E : EqX Xt h h') : RepR S h' := by
  have e := R.2.2.2.2.2.2.2.2.1
  refine R.eqr (r := tR S) E ?_ (fun k hk z => ?_) (fun j => ⟨fun z => ?_, fun z => ?_⟩) (fun j z => ?_) (fun a k _ z => ?_)
  · rw [E.I (fun z => by have := z.2.2; omega)]; exact e
  · have := z.2.2; omega
  · cases z.1
  · cases z.1
  · cases z.1
  · cases z.1
theorem D183 {x y w : Int32} (V : StV S) (R : RepR S h) (k : ∀ h', RepR S h' → jC h' = jC h → jZ h' = jZ h → K (chosenA S x y w) h') : CI (d + 3) 183 [vR 11 (some 0), vI x, vI y, vI w] h K := by
  intro P hP
  obtain ⟨r1, r2, r3, r4, r5, r6, r7, -⟩ := id R
  have k0 := k h R rfl rfl
  unfold chosenA at k k0
  have n31 : x < 0 ∨ 30 < x → asP 31 x = none := fun c => asP_n (by decide) (fun j hj z => by
    rcases c with c | c
    · rw [z] at c; exact nI_pos (by omega) c
    · rw [z] at c; exact nI_nlt (b := j) (a := 30) (by omega) (by decide) c)
  have n4 : y < 0 ∨ 3 < y → asP 4 y = none := fun c => asP_n (by decide) (fun j hj z => by
    rcases c with c | c
    · rw [z] at c; exact nI_pos (by omega) c
    · rw [z] at c; exact nI_nlt (b := j) (a := 3) (by omega) (by decide) c)
  refine v183 hP 0 x y w h ⟨fun c => ⟨_, rfl, ?_⟩, fun c => ⟨fun c2 => ⟨_, rfl, ?_⟩, fun c2 => ⟨fun c3 => ⟨_, rfl, ?_⟩, fun c3 => ⟨fun c4 => ⟨_, rfl, ?_⟩, fun c4 => s175 ⟨fun c5 => ?_, fun c5 => ⟨_, rfl, ?_⟩⟩⟩⟩⟩⟩
  · rw [n31 (Or.inl c)] at k0; exact k0
  · rw [n31 (Or.inr c2)] at k0; exact k0
  · rw [n4 (Or.inl c3)] at k0
    cases hx : asP 31 x with
    | none => rw [hx] at k0; exact k0
    | some a => rw [hx] at k0; exact k0
  · rw [n4 (Or.inr c4)] at k0
    cases hx : asP 31 x with
    | none => rw [hx] at k0; exact k0
    | some a => rw [hx] at k0; exact k0
  · obtain ⟨a, a1, a2⟩ := nI_of2 (M := 30) (n := 30) (by decide) c (by
      rw [Int32.le_iff_toInt_le]
      rw [Int32.lt_iff_toInt_lt] at c2
      omega)
    obtain ⟨b, b1, b2⟩ := nI_of2 (M := 3) (n := 3) (by decide) c3 (by
      rw [Int32.le_iff_toInt_le]
      rw [Int32.lt_iff_toInt_lt] at c4
      omega)
    rw [of4] at c5
    cases hw : asP 4 w with
    | none => exact absurd hw c5
    | some o =>
      obtain ⟨o1, o2⟩ := asP_v (by decide) hw
      have ea : asP 31 x = some a := asP_s (by decide) (by omega) a2
      have eb : asP 4 y = some b := asP_s (by decide) (by omega) b2
      rw [ea, eb, hw] at k k0
      dsimp only at k k0
      rw [a2, b2, o2]
      refine s184 (fr := 0) r1 o1 (r6 o o1) r7 (V.2.2.2.2.1 o o1) Dcm_v (by omega) (by decide) ⟨fun z => ⟨fun c6 => absurd rfl c6, fun _ => ⟨_, rfl, ?_⟩⟩, fun s i bb h1 h2 h3 h4 h5 => ⟨fun _ => ?_, fun c6 => absurd ?_ c6⟩⟩
      · rw [chs_n (fun t h1 h2 => z t h1 (by omega))] at k0
        exact k0
      · have kk := k _ (R.t (tkH_eq h (tnI (fmI (s / 2) a)) (if s % 2 = 0 then 1 else 0) (nI i))) rfl rfl
        rw [chs_s h4 h1 (by omega) h3] at kk
        have e31 : jI (tkH h (tnI (fmI (s / 2) a)) (if s % 2 = 0 then 1 else 0) (nI i)) 11 0 31 = (if s % 2 = 0 then 1 else 0) := by
          unfold tkH
          rw [jI_k (by decide), jI_same]
        have e29 : jI (tkH h (tnI (fmI (s / 2) a)) (if s % 2 = 0 then 1 else 0) (nI i)) 11 0 29 = tnI (fmI (s / 2) a) := by
          unfold tkH
          rw [jI_k (by decide), jI_k (by decide), jI_same]
        rw [e31, e29]
        by_cases z : s % 2 = 0
        · rw [if_pos z] at kk ⊢
          exact ⟨fun y => absurd y (by decide), fun _ => ⟨_, rfl, by rw [if_pos z] at kk; exact kk⟩⟩
        · rw [if_neg z] at kk ⊢
          exact ⟨fun _ => ⟨_, rfl, by rw [if_neg z] at kk; exact kk⟩, fun y => absurd rfl y⟩
      · exact nI_m1 (by omega)
  · have c6 := of4.mp (Classical.not_not.mp c5)
    rw [c6] at k0
    cases hx : asP 31 x with
    | none => rw [hx] at k0; exact k0
    | some a =>
      rw [hx] at k0
      cases hy : asP 4 y with
      | none => rw [hy] at k0; exact k0
      | some b => rw [hy] at k0; exact k0
end
