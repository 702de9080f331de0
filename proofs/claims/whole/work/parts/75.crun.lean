/-! running a body: the class's run -/
def stE (val : Nat → Int32) (nx : Int32) (st : List Int32) (x : Nat) : List Int32 := if x < 10000 then nI x :: st else if x < 20000 then (if x = 10008 then nx else val (x - 10000)) :: st else match st with
  | b :: a :: r => cmb (x - 20000) a b :: r
  | _ => st
def exE (val : Nat → Int32) (nx : Int32) (C : List Nat) (st : List Int32) : List Int32 := C.foldl (stE val nx) st
/-- what a body gives -/
def evB (val : Nat → Int32) (nx : Int32) (C : List Nat) : Int32 := (exE val nx C []).headD 0
def dpF (d : Option Nat) (C : List Nat) : Option Nat := C.foldl stD d
theorem dpF_none : ∀ C, dpF none C = none
  | [] => rfl
  | x :: C => dpF_none C
theorem fl_split {D : List Bod} {i : Nat} {b : Bod} (h : D[i]? = some b) : fl D = fl (D.take i) ++ (b.2.2 ++ fl (D.drop (i + 1))) ∧ fl (D.take (i + 1)) = fl (D.take i) ++ b.2.2 := by
  have hi : i < D.length := by
    rcases Nat.lt_or_ge i D.length with z | z
    · exact z
    · rw [List.getElem?_eq_none z] at h; cases h
  have eb : D[i] = b := by
    rw [List.getElem?_eq_getElem hi] at h
    exact Option.some.inj h
  have e1 : D.take (i + 1) = D.take i ++ [b] := by
    rw [List.take_succ, h]; rfl
  have e2 : fl (D.take (i + 1)) = fl (D.take i) ++ b.2.2 := by rw [e1, fl_app, fl_one]
  refine ⟨?_, e2⟩
  have e3 : D = D.take (i + 1) ++ D.drop (i + 1) := (List.take_append_drop (i + 1) D).symm
  calc fl D = fl (D.take (i + 1) ++ D.drop (i + 1)) := by rw [← e3]
    _ = fl (D.take (i + 1)) ++ fl (D.drop (i + 1)) := fl_app _ _
    _ = _ := by rw [e2, List.append_assoc]
theorem fl_at {D : List Bod} {i t : Nat} {b : Bod} (h : D[i]? = some b) (ht : t < b.2.2.length) : (fl D)[(fl (D.take i)).length + t]? = b.2.2[t]? := by
  rw [(fl_split h).1, List.getElem?_append_right (by omega), show (fl (D.take i)).length + t - (fl (D.take i)).length = t by omega, List.getElem?_append_left ht]
def X10 : Nat → Nat → Nat → Prop := fun t a _ => t = 21 ∧ a = 10
theorem PkS.fr {X : Nat → Nat → Nat → Prop} {c z k : Nat} {G G' : Hp} (S : PkS G k) (F : Fr X c z G G') (hX : ∀ j, ¬ X 1 k j) : PkS G' k := by
  obtain ⟨s0, s1, s2, r2, r3, r4, r5, r6, l2, l3, l4, l5, l6⟩ := S
  have f := fun j => (F.2.2.1 1 k j s1 (hX j)).2.1
  refine ⟨s0, Nat.lt_of_lt_of_le s1 (F.1 1), Nat.le_trans s2 (F.1 21), (f 2).trans r2, (f 3).trans r3, (f 4).trans r4, (f 5).trans r5, (f 6).trans r6, ?_, ?_, ?_, ?_, ?_⟩
  · rw [F.2.1 21 _ (by omega)]; exact l2
  · rw [F.2.1 21 _ (by omega)]; exact l3
  · rw [F.2.1 21 _ (by omega)]; exact l4
  · rw [F.2.1 21 _ (by omega)]; exact l5
  · rw [F.2.1 21 _ (by omega)]; exact l6
theorem PkC.fr {X : Nat → Nat → Nat → Prop} {c z k : Nat} {G G' : Hp} {D : List Bod} (Q : PkC G k D) (S : PkS G k) (F : Fr X c z G G') (hX : ∀ j, ¬ X 1 k j) (hX2 : ∀ i j, i < 5 → ¬ X 21 (pb k + i) j) : PkC G' k D := by
  obtain ⟨s0, s1, s2, -⟩ := S
  obtain ⟨q1, q2, q3, q4, q5, q6, q7⟩ := Q
  have g := fun i j (hi : i < 5) => (F.2.2.1 21 (pb k + i) j (by omega) (hX2 i j hi)).1
  refine ⟨q1, q2, ?_, ?_, fun i h1 h2 => ?_, fun i b e => ?_, fun j x e => ?_⟩
  · rw [(F.2.2.1 1 k 0 s1 (hX 0)).1]; exact q3
  · rw [(F.2.2.1 1 k 1 s1 (hX 1)).1]; exact q4
  · rw [g 2 i (by decide)]; exact q5 i h1 h2
  · have g0 := g 0 i (by decide)
    rw [Nat.add_zero] at g0
    rw [g0, g 1 i (by decide), g 3 i (by decide)]; exact q6 i b e
  · rw [g 4 j (by decide)]; exact q7 j x e
theorem pb10 {k i : Nat} (hi : i < 5) : pb k + i ≠ 10 := by
  unfold pb
  split <;> omega
theorem x10p {k : Nat} : (∀ j, ¬ X10 1 k j) ∧ (∀ i j, i < 5 → ¬ X10 21 (pb k + i) j) := ⟨fun j z => absurd z.1 (by decide), fun i j hi z => pb10 hi z.2⟩
/-- the Bench's stack -/
def BkS (h : Hp) : Prop := 0 < jN h 0 ∧ 10 < jN h 21 ∧ jR h 0 0 3 = some 10 ∧ jLen h 21 10 = 32
theorem BkS.fr {X : Nat → Nat → Nat → Prop} {c z : Nat} {G G' : Hp} (S : BkS G) (F : Fr X c z G G') (hX : ∀ j, ¬ X 0 0 j) : BkS G' := by
  obtain ⟨s0, s1, s2, s3⟩ := S
  exact ⟨Nat.lt_of_lt_of_le s0 (F.1 0), Nat.lt_of_lt_of_le s1 (F.1 21), ((F.2.2.1 0 0 3 s0 (hX 3)).2.1).trans s2, (F.2.1 21 10 s1).trans s3⟩
def SkO (h : Hp) (st : List Int32) : Prop := ∀ j x, st.reverse[j]? = some x → jI h 21 10 j = x
theorem rev_cI {S : List Int32} {s x : Int32} {j : Nat} (h : S.reverse[j]? = some x) : (s :: S).reverse[j]? = some x := by
  have hj : j < S.reverse.length := by
    rcases Nat.lt_or_ge j S.reverse.length with z | z
    · exact z
    · rw [List.getElem?_eq_none z] at h; cases h
  rw [List.reverse_cons, List.getElem?_append_left hj]
  exact h
theorem rev_tI (S : List Int32) (s : Int32) : (s :: S).reverse[S.length]? = some s := by
  rw [List.reverse_cons, List.getElem?_append_right (by rw [List.length_reverse]; exact Nat.le_refl _), List.length_reverse, Nat.sub_self]
  rfl
theorem SkO.push {h : Hp} {st : List Int32} (Q : SkO h st) (v : Int32) : SkO (wI h 21 10 st.length v) (v :: st) := by
  intro j x e
  rw [List.reverse_cons] at e
  by_cases z : j = st.length
  · rw [z, List.getElem?_append_right (by rw [List.length_reverse]; exact Nat.le_refl _), List.length_reverse, Nat.sub_self] at e
    have e := Option.some.inj e
    rw [z, jI_same, e]
  · rw [jI_k z]
    have hlt : j < st.reverse.length := by
      rcases Nat.lt_or_ge j (st.reverse ++ [v]).length with y | y
      · rw [List.length_append, List.length_reverse] at y
        rw [List.length_reverse]
        have : [v].length = 1 := rfl
        omega
      · rw [List.getElem?_eq_none y] at e; cases e
    rw [List.getElem?_append_left hlt] at e
    exact Q j x e
theorem SkO.pop2 {h : Hp} {r : List Int32} {a b : Int32} (Q : SkO h (b :: a :: r)) : jI h 21 10 r.length = a ∧ jI h 21 10 (r.length + 1) = b ∧ SkO h r := ⟨Q _ _ (rev_cI (rev_tI r a)), Q _ _ (rev_tI (a :: r) b), fun j x e => Q j x (rev_cI (rev_cI e))⟩
theorem r11 {d k i : Nat} {D : List Bod} {b : Bod} {nx : Int32} {val : Nat → Int32} {l3 l4 : Option Nat} {h0 : Hp} {K : Int32 → Hp → Prop} {P : Nat → List AV → List AV → Hp → Prop} (hP : Cl (Call (d + 4)) 6 (fun v h' => ∃ x, v = some (vI x) ∧ K x h') P) (Sk : BkS h0) (S : PkS h0 k) (Q : PkC h0 k D) (hb : D[i]? = some b) (hv : ∀ x ∈ b.2.2, cdV x) (hval : ∀ h', Fr X10 0 0 h0 h' → ∀ w, w < 9 → ∀ K : Int32 → Hp → Prop, K (if w = 8 then nx else val w) h' → CI (d + 4) 8 [vI (nI w), vR 7 l3, vR 3 l4, vI nx] h' K) : ∀ (R : List Nat) (t : Nat) (st : List Int32) (w8 : AV) (h : Hp), b.2.2.drop t = R → t ≤ b.2.2.length → st.length ≤ 32 → dpF (some st.length) R = some 1 → SkO h st → Fr X10 0 0 h0 h → (∀ h', Fr X10 0 0 h0 h' → K ((exE val nx R st).headD 0) h') → P 11 [vR 0 (some 0), vR 1 (some k), vI (nI i), vR 7 l3, vR 3 l4, vI nx, vI (nI st.length), vI (nI ((fl (D.take i)).length + t)), w8] [] h := by
  intro R
  have hi : i < D.length := by
    rcases Nat.lt_or_ge i D.length with z | z
    · exact z
    · rw [List.getElem?_eq_none z] at hb; cases hb
  have h12 := Q.1
  have h240 := Q.2.1
  have fs := fl_split hb
  have fl1 : (fl D).length = (fl (D.take i)).length + (b.2.2.length + (fl (D.drop (i + 1))).length) := by rw [fs.1, List.length_append, List.length_append]
  have fl2 : (fl (D.take (i + 1))).length = (fl (D.take i)).length + b.2.2.length := by rw [fs.2, List.length_append]
  have ii : nI i + 1 = nI (i + 1) := nI_1 i
  have ii2 : ix (nI (i + 1)) = i + 1 := nI_clamp (by omega)
  induction R with
  | nil =>
    intro t st w8 h hR ht h32 hd hs F kk
    have S1 := S.fr F x10p.1
    have Q1 := Q.fr S F x10p.1 x10p.2
    have Sk1 := Sk.fr F (fun j z => absurd z.1 (by decide))
    have et : t = b.2.2.length := by
      have := congrArg List.length hR
      rw [List.length_drop] at this
      have e0 : ([] : List Nat).length = 0 := rfl
      omega
    have hd : some st.length = some 1 := hd
    have l1 := Option.some.inj hd
    obtain ⟨v, rfl⟩ : ∃ v, st = [v] := by
      cases st with
      | nil => cases l1
      | cons v r =>
        cases r with
        | nil => exact ⟨v, rfl⟩
        | cons w r => have : r.length + 1 + 1 = 1 := l1; omega
    refine v6_11 hP 0 (some k) (nI i) l3 l4 nx (nI 1) _ w8 h (dr_of rfl (dr_of S1.2.2.2.2.2.1 ?_))
    rw [ii, ii2, Q1.2.2.2.2.1 (i + 1) hi (by omega), fl2]
    refine ⟨by rw [S1.2.2.2.2.2.2.2.2.2.2.1]; exact vp_in_nI (by omega) (by decide), fun _ => ⟨fun c => absurd c (by decide), fun _ => dr_of Sk1.2.2.1 ⟨by rw [Sk1.2.2.2]; exact vp_in_nI (n := 0) (by decide) (by decide), _, rfl, ?_⟩⟩, fun c => absurd (nI_le (by omega) (by omega)) c⟩
    rw [hs 0 v rfl]
    exact kk h F
  | cons x R ih =>
    intro t st w8 h hR ht h32 hd hs F kk
    have S1 := S.fr F x10p.1
    have Q1 := Q.fr S F x10p.1 x10p.2
    have Sk1 := Sk.fr F (fun j z => absurd z.1 (by decide))
    have htl : t < b.2.2.length := by
      rcases Nat.lt_or_ge t b.2.2.length with z | z
      · exact z
      · rw [List.drop_eq_nil_of_le z] at hR; cases hR
    have ex : b.2.2[t]? = some x := by
      have := congrArg (fun l => l[0]?) hR
      simp only [List.getElem?_drop, Nat.add_zero, List.getElem?_cons_zero] at this
      exact this
    have ed : b.2.2.drop (t + 1) = R := by
      have := congrArg List.tail hR
      rw [List.tail_drop] at this
      exact this
    have hx := hv x (List.mem_of_getElem? ex)
    have sx : jI h 21 (pb k + 4) ((fl (D.take i)).length + t) = nI x := Q1.2.2.2.2.2.2 _ x (by rw [fl_at hb htl]; exact ex)
    have it : ix (nI ((fl (D.take i)).length + t)) = (fl (D.take i)).length + t := nI_clamp (by omega)
    have hxb : x < 20006 := by unfold cdV at hx; omega
    have hd2 : dpF (stD (some st.length) x) R = some 1 := hd
    refine v6_11 hP 0 (some k) (nI i) l3 l4 nx (nI st.length) _ w8 h (dr_of rfl (dr_of S1.2.2.2.2.2.1 ?_))
    rw [ii, ii2, Q1.2.2.2.2.1 (i + 1) hi (by omega), fl2]
    refine ⟨by rw [S1.2.2.2.2.2.2.2.2.2.2.1]; exact vp_in_nI (by omega) (by decide), fun c => absurd c (nI_ge (by omega) (by omega)), fun _ => dr_of rfl (dr_of S1.2.2.2.2.2.2.2.1 ?_)⟩
    rw [it, sx]
    refine ⟨by rw [S1.2.2.2.2.2.2.2.2.2.2.2.2]; exact vp_in_nI (by omega) (by decide), fun c2 => ?_, fun c2 => ?_⟩
    · have c2 : x < 20000 := (nI_ltI (b := 20000) (by omega) (by omega)).mp c2
      unfold stD at hd2
      dsimp only at hd2
      rw [if_pos c2] at hd2
      have l32 : st.length < 32 := by
        rcases Nat.lt_or_ge st.length 32 with z | z
        · exact z
        · rw [if_neg (by omega), dpF_none] at hd2; cases hd2
      rw [if_pos l32] at hd2
      have is : ix (nI st.length) = st.length := nI_clamp (by omega)
      have vs : ∀ {g : Hp}, jLen g 21 10 = 32 → vp_in (nI st.length) (jLen g 21 10) := fun e => by rw [e]; exact vp_in_nI l32 (by decide)
      have push : ∀ v, stE val nx st x = v :: st → ∀ w8 : AV, P 11 [vR 0 (some 0), vR 1 (some k), vI (nI i), vR 7 l3, vR 3 l4, vI nx, vI (nI st.length + 1), vI (nI ((fl (D.take i)).length + t) + 1), w8] [] (wI h 21 10 st.length v) := by
        intro v ev w8
        rw [nI_1, nI_1]
        refine ih (t + 1) (v :: st) w8 _ ed htl (by show st.length + 1 ≤ 32; omega) hd2 (hs.push v) (F.wI v (Or.inr ⟨rfl, rfl⟩)) (fun h' F' => ?_)
        have := kk h' F'
        show K ((exE val nx R (v :: st)).headD 0) h'
        rw [← ev]
        exact this
      refine dr_of Sk1.2.2.1 ⟨fun c3 => absurd c3 ?_, fun _ => ⟨fun c3 => ?_, fun c3 => ?_⟩⟩
      · rw [Sk1.2.2.2]; exact nI_ge (b := 32) l32 (by decide)
      · have c3 : 10000 ≤ x := (nI_leI (a := 10000) (by omega) (by omega)).mp c3
        have hw : x - 10000 < 9 := by unfold cdV at hx; omega
        have e1 : nI x - 10000 = nI (x - 10000) := pk_sub (b := 10000) c3
        rw [e1]
        refine hval h F (x - 10000) hw _ (dr_of Sk1.2.2.1 ⟨vs Sk1.2.2.2, ?_⟩)
        rw [is]
        refine push _ ?_ _
        unfold stE
        rw [if_neg (by omega), if_pos c2]
        by_cases z : x = 10008
        · rw [if_pos z, if_pos (by omega)]
        · rw [if_neg z, if_neg (by omega)]
      · have c3 : ¬ 10000 ≤ x := fun z => c3 ((nI_leI (a := 10000) (by omega) (by omega)).mpr z)
        refine dr_of Sk1.2.2.1 ⟨vs Sk1.2.2.2, ?_⟩
        rw [is]
        refine push _ ?_ _
        unfold stE
        rw [if_pos (by omega)]
    · have c2 : ¬ x < 20000 := fun z => c2 ((nI_ltI (b := 20000) (by omega) (by omega)).mpr z)
      unfold stD at hd2
      dsimp only at hd2
      rw [if_neg c2] at hd2
      have l2 : 2 ≤ st.length := by
        rcases Nat.lt_or_ge st.length 2 with z | z
        · rw [if_neg (by omega), dpF_none] at hd2; cases hd2
        · exact z
      rw [if_pos l2] at hd2
      obtain ⟨bb, aa, r, rfl⟩ : ∃ bb aa r, st = bb :: aa :: r := by
        cases st with
        | nil => exact absurd l2 (by decide)
        | cons v r =>
          cases r with
          | nil =>
            have l2 : 2 ≤ 1 := l2
            omega
          | cons w r => exact ⟨v, w, r, rfl⟩
      obtain ⟨p1, p2, p3⟩ := hs.pop2
      have ll : (bb :: aa :: r).length = r.length + 1 + 1 := rfl
      have rl : r.length + 1 + 1 ≤ 32 := h32
      rw [ll]
      have e1 : nI (r.length + 1 + 1) + (-1) = nI (r.length + 1) := pk_m1 _
      have e2 : nI (r.length + 1) - 1 = nI r.length := nI_pred _
      have e3 : nI x - 20000 = nI (x - 20000) := pk_sub (b := 20000) (by omega)
      have i1 : ix (nI (r.length + 1)) = r.length + 1 := nI_clamp (by omega)
      have i2 : ix (nI r.length) = r.length := nI_clamp (by omega)
      have v1 : ∀ j, j < 32 → ∀ {g : Hp}, jLen g 21 10 = 32 → vp_in (nI j) (jLen g 21 10) := fun j hj g e => by rw [e]; exact vp_in_nI hj (by decide)
      rw [e1, e2, e3, i1, i2]
      refine ⟨fun c => absurd c (nI_nlt (b := 2) (by omega) (by omega)), fun _ => dr_of Sk1.2.2.1 ⟨v1 _ (by omega) Sk1.2.2.2, dr_of Sk1.2.2.1 ⟨v1 _ (by omega) Sk1.2.2.2, ?_⟩⟩⟩
      rw [p1, p2]
      refine s7 (by omega) (dr_of Sk1.2.2.1 ⟨v1 _ (by omega) Sk1.2.2.2, ?_⟩)
      rw [nI_1]
      refine ih (t + 1) (cmb (x - 20000) aa bb :: r) _ _ ed htl (by show r.length + 1 ≤ 32; omega) hd2 (p3.push _) (F.wI _ (Or.inr ⟨rfl, rfl⟩)) (fun h' F' => ?_)
      have := kk h' F'
      have ev : stE val nx (bb :: aa :: r) x = cmb (x - 20000) aa bb :: r := by
        unfold stE
        rw [if_neg (by omega), if_neg c2]
      show K ((exE val nx R (cmb (x - 20000) aa bb :: r)).headD 0) h'
      rw [← ev]
      exact this
/-- run(pack, body, shield, piece, next) -/
theorem s6 {d k i : Nat} {D : List Bod} {b : Bod} {nx : Int32} {val : Nat → Int32} {l3 l4 : Option Nat} {h : Hp} {K : Int32 → Hp → Prop} (Sk : BkS h) (S : PkS h k) (Q : PkC h k D) (hb : D[i]? = some b) (hd : dpt b.2.2 = some 1) (hv : ∀ x ∈ b.2.2, cdV x) (hval : ∀ h', Fr X10 0 0 h h' → ∀ w, w < 9 → ∀ K : Int32 → Hp → Prop, K (if w = 8 then nx else val w) h' → CI (d + 4) 8 [vI (nI w), vR 7 l3, vR 3 l4, vI nx] h' K) (k1 : ∀ h', Fr X10 0 0 h h' → K (evB val nx b.2.2) h') : CI (d + 5) 6 [vR 0 (some 0), vR 1 (some k), vI (nI i), vR 7 l3, vR 3 l4, vI nx] h K := by
  intro P hP
  have hi : i < D.length := by
    rcases Nat.lt_or_ge i D.length with z | z
    · exact z
    · rw [List.getElem?_eq_none z] at hb; cases hb
  have h12 := Q.1
  have ii : ix (nI i) = i := nI_clamp (by omega)
  refine v6 hP 0 (some k) (nI i) l3 l4 nx h (dr_of rfl (dr_of S.2.2.2.2.2.1 ⟨by rw [S.2.2.2.2.2.2.2.2.2.2.1]; exact vp_in_nI (by omega) (by decide), ?_⟩))
  rw [ii, Q.2.2.2.2.1 i (by omega) (by omega)]
  exact r11 (t := 0) (st := []) hP Sk S Q hb hv hval b.2.2 un h rfl (Nat.zero_le _) (by decide) hd (fun j x e => by cases e) (Fr.refl _ _) k1
