/-! the class's calls that change nothing: look, point, differ, octet, chosen, ran, count -/
/-- the shield of a number -/
def shA (L : List (Nat → Int32)) (x : Int32) : Option (Nat → Int32) := match asP L.length x with
  | none => none
  | some k => L[k]?
theorem shA_n {L : List (Nat → Int32)} {x : Int32} (e : asP L.length x = none) : shA L x = none := by unfold shA; rw [e]
theorem shA_s {L : List (Nat → Int32)} {x : Int32} {k : Nat} {sh : Nat → Int32} (e : asP L.length x = some k) (e2 : L[k]? = some sh) : shA L x = some sh := by unfold shA; rw [e]; exact e2
theorem of4 {x : Int32} : bi (!decide (x < 0) && !decide (4 ≤ x)) = 0 ↔ asP 4 x = none := by
  rw [bi_z]
  unfold asP
  show _ ↔ (if ¬ x < 0 ∧ ¬ (4 : Int32) ≤ x then some (ix x) else none) = none
  by_cases c1 : x < 0
  · rw [if_neg (fun z => z.1 c1), decide_eq_true c1]
    exact ⟨fun _ => rfl, fun _ => rfl⟩
  · by_cases c2 : 4 ≤ x
    · rw [if_neg (fun z => z.2 c2), decide_eq_true c2, decide_eq_false c1]
      exact ⟨fun _ => rfl, fun _ => rfl⟩
    · rw [if_pos ⟨c1, c2⟩, decide_eq_false c1, decide_eq_false c2]
      exact ⟨fun z => (by cases z), fun z => (by cases z)⟩
theorem s96 {d : Nat} {x : Int32} {h : Hp} {L : List (Nat → Int32)} {si : Nat → Nat} {K : Option Nat → Hp → Prop} (H : CsH h) (Q : ShC h L si) (hl : L.length ≤ 60) (k0 : asP L.length x = none → K none h) (k1 : ∀ k sh, asP L.length x = some k → L[k]? = some sh → K (some (si k)) h) : CR (d + 1) 96 7 [vR 10 (some 0), vI x] h K := by
  intro P hP
  have e := Q.1
  refine v96 hP 0 x h ⟨fun c => ⟨_, rfl, k0 (asP_n (by omega) (fun j hj z => ?_))⟩, fun c => ⟨fun c2 => ⟨_, rfl, k0 (asP_n (by omega) (fun j hj z => ?_))⟩, fun c2 => ?_⟩⟩
  · rw [z] at c; exact nI_pos (by omega) c
  · rw [e, z] at c2; exact nI_ge hj (by omega) c2
  · obtain ⟨j, hj, ej⟩ := nI_of c
    have hlt : j < L.length := by
      rw [e, ej] at c2
      rcases Nat.lt_or_ge j L.length with z | z
      · exact z
      · exact absurd (nI_le z (by omega)) c2
    have ij : ix x = j := by rw [ej]; exact nI_clamp hj
    have hg : L[j]? = some L[j] := List.getElem?_eq_getElem hlt
    refine dr_of H.2.2.2.1.2.1 ⟨by rw [H.2.2.2.2.2, ej]; exact vp_in_nI (by omega) (by decide), _, rfl, ?_⟩
    rw [ij, (Q.2.1 j _ hg).1]
    exact k1 j _ (asP_s (by omega) hlt ej) hg
section
variable {d : Nat} {S : Sta} {h : Hp} {K : Int32 → Hp → Prop}
def lookA (S : Sta) (x w : Int32) : Int32 := match shA (tL S) x with
  | none => -1
  | some sh => lkS sh w
theorem C98 {x w : Int32} (V : StV S) (R : RepC S h) (k : K (lookA S x w) h) : CI (d + 3) 98 [vR 10 (some 0), vI x, vI w] h K := by
  intro P hP
  obtain ⟨H, -, ⟨si, Q⟩, -⟩ := R
  unfold lookA at k
  refine v98 hP 0 x w h (s96 H Q V.2.2.1 (fun e => ⟨fun c => absurd rfl c, fun _ => ⟨_, rfl, ?_⟩⟩) (fun j sh e e2 => ⟨fun _ => ?_, fun c => absurd (fun z => by cases z) c⟩))
  · rw [shA_n e] at k; exact k
  · rw [shA_s e e2] at k
    obtain ⟨-, pa, q, -⟩ := Q.2.1 j sh e2
    have k : K (lkS sh w) h := k
    unfold lkS at k
    refine ⟨fun c => s59 q (fun e3 => ⟨fun c => absurd rfl c, fun _ => ⟨_, rfl, ?_⟩⟩) (fun pl e3 => ?_), fun c => s57 q ⟨_, rfl, ?_⟩⟩
    · rw [if_pos c, e3] at k; exact k
    · rw [if_pos c, e3] at k
      have v := plN_v e3
      obtain ⟨pt, da, a1, a2, a3, a4, a5⟩ := q.at (by omega) v.2
      rw [a1]
      exact ⟨fun _ => s25 a5 (mod8 c) ⟨_, rfl, k⟩, fun c => absurd (fun z => by cases z) c⟩
    · rw [if_neg c] at k; exact k
def pointA (S : Sta) (x y w : Int32) : Int32 := match shA (tL S) x with
  | none => -1
  | some sh => ptS sh y w
theorem C106 {x y w : Int32} (V : StV S) (R : RepC S h) (k : K (pointA S x y w) h) : CI (d + 7) 106 [vR 10 (some 0), vI x, vI y, vI w] h K := by
  intro P hP
  obtain ⟨H, -, ⟨si, Q⟩, -⟩ := R
  unfold pointA at k
  refine v106 hP 0 x y w h (s96 H Q V.2.2.1 (fun e => ⟨fun c => absurd rfl c, fun _ => ⟨_, rfl, ?_⟩⟩) (fun j sh e e2 => ⟨fun _ => ?_, fun c => absurd (fun z => by cases z) c⟩))
  · rw [shA_n e] at k; exact k
  · rw [shA_s e e2] at k
    obtain ⟨-, pa, q, -⟩ := Q.2.1 j sh e2
    exact s213 q (V.2.2.2.1 sh (List.mem_of_getElem? e2)).1 ⟨_, rfl, k⟩
def differA (S : Sta) (x y : Int32) : Int32 := match shA (tL S) x, shA (tL S) y with
  | some a, some b => nI (dfS a b)
  | _, _ => -1
theorem C108 {x y : Int32} (V : StV S) (R : RepC S h) (k : K (differA S x y) h) : CI (d + 4) 108 [vR 10 (some 0), vI x, vI y] h K := by
  intro P hP
  obtain ⟨H, -, ⟨si, Q⟩, -⟩ := R
  unfold differA at k
  refine v108 hP 0 x y h (s96 H Q V.2.2.1 (fun e => s96 H Q V.2.2.1 (fun e3 => ⟨fun _ => ⟨_, rfl, ?_⟩, fun c => absurd rfl c⟩) (fun j2 sh2 e3 e4 => ⟨fun _ => ⟨_, rfl, ?_⟩, fun c => absurd rfl c⟩)) (fun j sh e e2 => s96 H Q V.2.2.1 (fun e3 => ⟨(fun z => by cases z), fun _ => ⟨fun c => absurd rfl c, fun _ => ⟨_, rfl, ?_⟩⟩⟩) (fun j2 sh2 e3 e4 => ⟨(fun z => by cases z), fun _ => ⟨fun _ => ?_, fun c => absurd (fun z => by cases z) c⟩⟩)))
  · rw [shA_n e] at k; exact k
  · rw [shA_n e] at k; exact k
  · rw [shA_n e3] at k
    cases hh : shA (tL S) x with
    | none => rw [hh] at k; exact k
    | some a => rw [hh] at k; exact k
  · rw [shA_s e e2, shA_s e3 e4] at k
    obtain ⟨-, pa, q, -⟩ := Q.2.1 j sh e2
    obtain ⟨-, pa2, q2, -⟩ := Q.2.1 j2 sh2 e4
    exact s54 q q2 ⟨_, rfl, k⟩
theorem C97 {x : Int32} (R : RepC S h) (k : K (ocS (tW S) x) h) : CI (d + 2) 97 [vR 10 (some 0), vI x] h K := by
  intro P hP
  obtain ⟨H, -, -, -, -, p1, p2, -⟩ := R
  exact v97 hP 0 x h (dr_of H.2.2.2.1.2.2.2.2.2.1 (s37 p1 p2 ⟨_, rfl, k⟩))
theorem C105 (R : RepC S h) (k : K (tR S) h) : CI (d + 1) 105 [vR 10 (some 0)] h K := by
  obtain ⟨H, -, -, -, r, -⟩ := R
  refine s105 H.2.2.2.1.2.2.2.2.2.2.1 ?_
  rw [r]; exact k
def chosenA (S : Sta) (x y w : Int32) : Int32 := match asP 31 x, asP 4 y, asP 4 w with
  | some a, some b, some o => chsS (tD S o) Dcm b a 0 8
  | _, _, _ => -1
theorem C104 {x y w : Int32} (R : RepC S h) (k : K (chosenA S x y w) h) : CI (d + 5) 104 [vR 10 (some 0), vI x, vI y, vI w] h K := by
  intro P hP
  obtain ⟨H, -, -, ⟨pk, dr, B, D1, D2⟩, -⟩ := R
  unfold chosenA at k
  have n31 : x < 0 ∨ 31 ≤ x → asP 31 x = none := fun c => by
    unfold asP
    refine if_neg (fun z => ?_)
    rcases c with c | c
    · exact z.1 c
    · exact z.2 c
  refine v104 hP 0 x y w h ⟨fun c => ⟨_, rfl, ?_⟩, fun c => ⟨fun c2 => ⟨_, rfl, ?_⟩, fun c2 => s86 ⟨fun c3 => ⟨_, rfl, ?_⟩, fun c3 => s94 ⟨fun c4 => ⟨_, rfl, ?_⟩, fun c4 => dr_of H.2.2.2.1.2.2.2.2.2.2.1 ?_⟩⟩⟩⟩
  · rw [n31 (Or.inl c)] at k; exact k
  · rw [n31 (Or.inr c2)] at k; exact k
  · rw [of4.mp c3] at k
    cases hx : asP 31 x with
    | none => rw [hx] at k; exact k
    | some a => rw [hx] at k; exact k
  · rw [of4.mp c4] at k
    cases hx : asP 31 x with
    | none => rw [hx] at k; exact k
    | some a =>
      rw [hx] at k
      cases hy : asP 4 y with
      | none => rw [hy] at k; exact k
      | some b => rw [hy] at k; exact k
  · rw [of4] at c3 c4
    cases hx : asP 31 x with
    | none =>
      unfold asP at hx
      rw [if_pos ⟨c, c2⟩] at hx
      cases hx
    | some a =>
      cases hy : asP 4 y with
      | none => exact absurd hy c3
      | some b =>
        cases hw : asP 4 w with
        | none => exact absurd hw c4
        | some o =>
          rw [hx, hy, hw] at k
          obtain ⟨a1, a2⟩ := asP_v (by decide) hx
          obtain ⟨b1, b2⟩ := asP_v (by decide) hy
          obtain ⟨o1, o2⟩ := asP_v (by decide) hw
          rw [a2, b2, o2]
          exact s9 B (D1 o o1) D2 a1 o1 ⟨_, rfl, k⟩
theorem s2 {o : Nat} {D : Nat → List Bod} {pk : Nat → Nat} {dr : Nat} (B : BeC h D pk dr) (ho : o < 4) (k : K (nI (D o).length) h) : CI (d + 2) 2 [vR 0 (some 0), vI (nI o)] h K := by
  intro P hP
  obtain ⟨b, D1, D2⟩ := B
  have io : ix (nI o) = o := nI_clamp (by omega)
  refine v2 hP 0 (nI o) h (s94 ⟨fun c => ?_, fun c => dr_of b.2.2.2.1 ⟨by rw [b.2.2.2.2.1]; exact vp_in_nI ho (by decide), ?_⟩⟩)
  · rw [of4, asP_s (by decide) ho rfl] at c; cases c
  · rw [io]
    refine dr_of (b.2.2.2.2.2.1 o ho) ⟨_, rfl, ?_⟩
    rw [(D1 o ho).2.2.1]
    exact k
def countA (S : Sta) (x : Int32) : Int32 := if x = 0 then nI (tL S).length else if x = 1 then nI (tP S).1 else if x = 2 then nI (tT S) else if x < 3 then -1 else if 7 ≤ x then -1 else nI (tD S (ix (x - 3))).length
theorem x37 {x : Int32} (h1 : ¬ x < 3) (h2 : ¬ 7 ≤ x) : ∃ o, o < 4 ∧ x - 3 = nI o ∧ ix (x - 3) = o := by
  have e3 : (3 : Int32).toInt = 3 := by decide
  have e0 : (0 : Int32).toInt = 0 := by decide
  have h1' := h1
  rw [Int32.lt_iff_toInt_lt, e3] at h1'
  obtain ⟨j, hj, ej⟩ := nI_of (x := x) (fun z => by rw [Int32.lt_iff_toInt_lt, e0] at z; omega)
  have h3 : 3 ≤ j := by
    rcases Nat.lt_or_ge j 3 with z | z
    · rw [ej] at h1
      exact absurd (nI_lt (b := 3) z (by decide)) h1
    · exact z
  have h7 : j < 7 := by
    rcases Nat.lt_or_ge j 7 with z | z
    · exact z
    · rw [ej] at h2
      exact absurd (nI_le (a := 7) z hj) h2
  have e : x - 3 = nI (j - 3) := by
    rw [ej, show j = (j - 3) + 3 by omega]
    exact nI_sub (a := j - 3) (b := 3)
  exact ⟨j - 3, by omega, e, by rw [e]; exact nI_clamp (by omega)⟩
theorem C112 {x : Int32} (R : RepC S h) (k : K (countA S x) h) : CI (d + 3) 112 [vR 10 (some 0), vI x] h K := by
  intro P hP
  obtain ⟨H, T, ⟨si, Q⟩, ⟨pk, dr, B⟩, -, -, -, qa, g, G⟩ := R
  unfold countA at k
  refine v112 hP 0 x h ⟨fun c => ⟨_, rfl, ?_⟩, fun c => ⟨fun c1 => dr_of H.2.2.2.1.2.2.2.2.2.2.2 ⟨_, rfl, ?_⟩, fun c1 => ⟨fun c2 => ⟨_, rfl, ?_⟩, fun c2 => ⟨fun c3 => ⟨_, rfl, ?_⟩, fun c3 => ⟨fun c4 => ⟨_, rfl, ?_⟩, fun c4 => dr_of H.2.2.2.1.2.2.2.2.2.2.1 ?_⟩⟩⟩⟩⟩
  · rw [if_pos c] at k; rw [Q.1]; exact k
  · rw [if_neg c, if_pos c1] at k; rw [G.1.2.2.1]; exact k
  · rw [if_neg c, if_neg c1, if_pos c2] at k; rw [T.1]; exact k
  · rw [if_neg c, if_neg c1, if_neg c2, if_pos c3] at k; exact k
  · rw [if_neg c, if_neg c1, if_neg c2, if_neg c3, if_pos c4] at k; exact k
  · rw [if_neg c, if_neg c1, if_neg c2, if_neg c3, if_neg c4] at k
    obtain ⟨o, h1, h2, h3⟩ := x37 c3 c4
    rw [h3] at k
    rw [h2]
    exact s2 B h1 ⟨_, rfl, k⟩
end
