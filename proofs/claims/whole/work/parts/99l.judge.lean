/-! judge, part: both sides -/
/-- sum and bodies begun, over the first places -/
def jdS (Do Dc : List Bod) (sh : Nat → Int32) (r : Nat) : Nat → Int32 × Int32
  | 0 => (0, 0)
  | m + 1 => if sh (3 + 9 * m) = 0 then jdS Do Dc sh r m else ((jdS Do Dc sh r m).1 + (nvM (sfS Do Dc r (ix (sh (3 + 9 * m)))) (vlS sh m) 8).1, (jdS Do Dc sh r m).2 + (nvM (sfS Do Dc r (ix (sh (3 + 9 * m)))) (vlS sh m) 8).2)
theorem jd_0 {Do Dc : List Bod} {sh : Nat → Int32} {r m : Nat} (h : sh (3 + 9 * m) = 0) : jdS Do Dc sh r (m + 1) = jdS Do Dc sh r m := if_pos h
theorem jd_1 {Do Dc : List Bod} {sh : Nat → Int32} {r m : Nat} (h : ¬ sh (3 + 9 * m) = 0) : jdS Do Dc sh r (m + 1) = ((jdS Do Dc sh r m).1 + (nvM (sfS Do Dc r (ix (sh (3 + 9 * m)))) (vlS sh m) 8).1, (jdS Do Dc sh r m).2 + (nvM (sfS Do Dc r (ix (sh (3 + 9 * m)))) (vlS sh m) 8).2) := if_neg h
def judgeA (S : Sta) (x y w : Int32) : Int32 × Int32 := match shA (tL S) x, asP 4 y, asP 4 w with
  | some sh, some r, some o => jdS (tD S o) Dcm sh r 7
  | _, _, _ => (0, 0)
theorem judge_n {S : Sta} {x y w : Int32} (h : shA (tL S) x = none ∨ asP 4 y = none ∨ asP 4 w = none) : judgeA S x y w = (0, 0) := by
  unfold judgeA
  split
  · rename_i e1 e2 e3
    rcases h with h | h | h
    · rw [h] at e1; cases e1
    · rw [h] at e2; cases e2
    · rw [h] at e3; cases e3
  · rfl
theorem judge_s {S : Sta} {x y w : Int32} {sh : Nat → Int32} {r o : Nat} (h1 : shA (tL S) x = some sh) (h2 : asP 4 y = some r) (h3 : asP 4 w = some o) : judgeA S x y w = jdS (tD S o) Dcm sh r 7 := by
  unfold judgeA
  rw [h1, h2, h3]
def partA (S : Sta) (x p y w : Int32) : Int32 × Int32 := match shA (tL S) x, asP 4 y, asP 4 w with
  | some sh, some r, some o => (match plN sh p 7 0 0 with
    | none => (0, 0)
    | some q => nvM (sfS (tD S o) Dcm r (ix (sh (3 + 9 * q)))) (vlS sh q) 8)
  | _, _, _ => (0, 0)
theorem part_n {S : Sta} {x p y w : Int32} (h : shA (tL S) x = none ∨ asP 4 y = none ∨ asP 4 w = none) : partA S x p y w = (0, 0) := by
  unfold partA
  split
  · rename_i e1 e2 e3
    rcases h with h | h | h
    · rw [h] at e1; cases e1
    · rw [h] at e2; cases e2
    · rw [h] at e3; cases e3
  · rfl
theorem part_s {S : Sta} {x p y w : Int32} {sh : Nat → Int32} {r o : Nat} (h1 : shA (tL S) x = some sh) (h2 : asP 4 y = some r) (h3 : asP 4 w = some o) : partA S x p y w = (match plN sh p 7 0 0 with
    | none => (0, 0)
    | some q => nvM (sfS (tD S o) Dcm r (ix (sh (3 + 9 * q)))) (vlS sh q) 8) := by
  unfold partA
  rw [h1, h2, h3]
theorem sh_k {sh : Nat → Int32} {m : Nat} (V : ShV sh) (hm : m < 7) (h : ¬ sh (3 + 9 * m) = 0) : ∃ k, k < 31 ∧ sh (3 + 9 * m + 0) = nI k ∧ ix (sh (3 + 9 * m)) = k := by
  rcases V.2 m hm with z | z
  · exact absurd (z 0 (by decide)) h
  · obtain ⟨k, e, h1, h2⟩ := z.k
    have e : sh (3 + 9 * m) = nI k := e
    exact ⟨k, by omega, e, by rw [e]; exact nI_clamp (by omega)⟩
/-! the reference -/
theorem RepR.j {S : Sta} {h h' : Hp} {r : Int32} (R : RepR S h) (E : EqX XJ h h') (e : jI h' 11 0 32 = r) : RepR (setR S r) h' := by
  refine R.eqr E e (fun k hk z => ?_) (fun j => ⟨fun z => ?_, fun z => ?_⟩) (fun j z => ?_) (fun a k ha z => ?_)
  · rcases z with z | z
    · cases z.1
    · have := z.2.2; omega
  · rcases z with z | z <;> cases z.1
  · rcases z with z | z <;> cases z.1
  · rcases z with z | z <;> cases z.1
  · rcases z with z | z
    · omega
    · cases z.1
section
variable {d : Nat} {S : Sta} {K : Int32 → Hp → Prop}
theorem c185 {k r o : Nat} {sh : Nat → Int32} {h0 : Hp} {P : Nat → List AV → List AV → Hp → Prop} (hP : Cl (Call (d + 4)) 185 (fun v h' => ∃ x, v = some (vI x) ∧ K x h') P) (V : StV S) (R : RepR S h0) (hk : (tL S)[k]? = some sh) (hr : r < 4) (ho : o < 4) (kk : ∀ h', EqX XJ h0 h' → jI h' 11 0 32 = (jdS (tD S o) Dcm sh r 7).2 → K (jdS (tD S o) Dcm sh r 7).1 h') : ∀ (mm m : Nat) (h : Hp), m + mm = 7 → EqX XJ h0 h → jI h 11 0 32 = (jdS (tD S o) Dcm sh r m).2 → P 37 [vR 11 (some 0), vI (nI k), vI (nI r), vI (nI o), vI (jdS (tD S o) Dcm sh r m).1, vI (nI m)] [] h
  | 0, m, h, hm, E, e => by
    have h7 : m = 7 := by omega
    subst h7
    exact v185_37 hP 0 (nI k) (nI r) (nI o) _ (nI 7) h ⟨fun _ => ⟨_, rfl, kk h E e⟩, fun c => absurd (by decide) c⟩
  | mm + 1, m, h, hm, E, e => by
    have R1 := R.j E e
    obtain ⟨r1, r2, r3, r4, r5, r6, r7, -⟩ := R1
    have A := V.2.2.2.1 sh (List.mem_of_getElem? hk)
    have q := r5 k sh hk
    have hk60 := q.1
    have ei : ix (nI (63 * k + 9 * m)) = 63 * k + 9 * m := nI_clamp (by omega)
    have ec : jI h 21 3 (63 * k + 9 * m) = sh (3 + 9 * m) := q.p (pl := m) (i := 0) (by omega) (by decide)
    refine v185_37 hP 0 (nI k) (nI r) (nI o) _ (nI m) h ⟨fun c => absurd c (nI_ge (b := 7) (by omega) (by decide)), fun _ => s124 (dr_of r1.r15 ⟨by rw [spot_e, r1.n15]; exact vp_in_nI (by omega) (by decide), fun c => ?_, fun c => ?_⟩)⟩
    · rw [spot_e, ei, ec] at c
      rw [nI_1]
      have ih := c185 hP V R hk hr ho kk mm (m + 1) h (by omega) E (by rw [jd_0 c]; exact e)
      rw [jd_0 c] at ih
      exact ih
    · rw [spot_e, ei, ec] at c
      obtain ⟨kn, k1, k2, k3⟩ := sh_k A.1 (show m < 7 by omega) c
      refine s186 r1 q A.2.2.2.2.1 (by omega) ho (r6 o ho) r7 (V.2.2.2.2.1 o ho) Dcm_v k2 k1 (fun h' E' e' => ?_)
      rw [nI_1]
      have ih := c185 hP V R hk hr ho kk mm (m + 1) h' (by omega) (E.trans E') (by rw [jd_1 c, k3, e', e]; rfl)
      rw [jd_1 c, k3] at ih
      exact ih
theorem D185 {x y w : Int32} {h : Hp} (V : StV S) (R : RepR S h) (k : ∀ h', RepR (setR S (judgeA S x y w).2) h' → jC h' = jC h → jZ h' = jZ h → K (judgeA S x y w).1 h') : CI (d + 5) 185 [vR 11 (some 0), vI x, vI y, vI w] h K := by
  intro P hP
  have E0 : EqX XJ h (wI h 11 0 32 0) := (EqX.refl _ h).wI _ (Or.inr ⟨rfl, rfl, by decide⟩)
  have e0 : jI (wI h 11 0 32 0) 11 0 32 = 0 := jI_same ..
  have R0 : RepR (setR S 0) (wI h 11 0 32 0) := R.j E0 e0
  obtain ⟨r1, r2, r3, r4, r5, r6, r7, -⟩ := id R0
  have hl := V.2.2.1
  have no : judgeA S x y w = (0, 0) → K 0 (wI h 11 0 32 0) := fun z => by
    have := k (wI h 11 0 32 0) (by rw [z]; exact R0) rfl rfl
    rw [z] at this
    exact this
  have n4 : y < 0 ∨ 3 < y → asP 4 y = none := fun c => asP_n (by decide) (fun j hj z => by
    rcases c with c | c
    · rw [z] at c; exact nI_pos (by omega) c
    · rw [z] at c; exact nI_nlt (b := j) (a := 3) (by omega) (by decide) c)
  refine v185 hP 0 x y w h (s159 r4 hl (fun hno => ⟨fun _ => ⟨_, rfl, no (judge_n (Or.inl (shA_n (asP_n (by omega) hno))))⟩, fun c => absurd rfl c⟩) (fun j hj ej => ⟨(fun c => absurd c (by decide)), fun _ => ⟨fun c1 => ⟨_, rfl, no (judge_n (Or.inr (Or.inl (n4 (Or.inl c1)))))⟩, fun c1 => ⟨fun c2 => ⟨_, rfl, no (judge_n (Or.inr (Or.inl (n4 (Or.inr c2)))))⟩, fun c2 => s175 ⟨fun c3 => ?_, fun c3 => ⟨_, rfl, no (judge_n (Or.inr (Or.inr (of4.mp (Classical.not_not.mp c3)))))⟩⟩⟩⟩⟩))
  rw [of4] at c3
  cases hw : asP 4 w with
  | none => exact absurd hw c3
  | some o =>
    obtain ⟨o1, o2⟩ := asP_v (by decide) hw
    obtain ⟨b, b1, b2⟩ := nI_of2 (M := 3) (n := 3) (by decide) c1 (by
      rw [Int32.le_iff_toInt_le]
      rw [Int32.lt_iff_toInt_lt] at c2
      omega)
    have hj : j < (tL S).length := hj
    have hg : (tL S)[j]? = some (tL S)[j] := List.getElem?_eq_getElem hj
    have hs := judge_s (S := S) (x := x) (shA_s (asP_s (by omega) hj ej) hg) (asP_s (by decide) (show b < 4 by omega) b2) hw
    rw [hs] at k
    rw [ej, b2, o2]
    refine c185 (S := S) hP V R hg (show b < 4 by omega) o1 (fun h' E' e' => k h' (R.j E' e') E'.2.2.2.2.1 E'.2.2.2.2.2.1) 7 0 _ rfl E0 e0
theorem plN_neg {sh : Nat → Int32} {p : Int32} (hp : p < 0) : ∀ {m pl j : Nat}, j + m < 2 ^ 30 → plN sh p m pl (nI j) = none
  | 0, _, _, _ => rfl
  | m + 1, pl, j, h => by
    unfold plN
    split
    · exact plN_neg hp (by omega)
    · rw [if_neg (fun z => by rw [← z] at hp; exact nI_pos (by omega) hp), nI_1]
      exact plN_neg hp (by omega)
theorem D193 {x p y w : Int32} {h : Hp} (V : StV S) (R : RepR S h) (k : ∀ h', RepR (setR S (partA S x p y w).2) h' → jC h' = jC h → jZ h' = jZ h → K (partA S x p y w).1 h') : CI (d + 5) 193 [vR 11 (some 0), vI x, vI p, vI y, vI w] h K := by
  intro P hP
  have E0 : EqX XJ h (wI h 11 0 32 0) := (EqX.refl _ h).wI _ (Or.inr ⟨rfl, rfl, by decide⟩)
  have e0 : jI (wI h 11 0 32 0) 11 0 32 = 0 := jI_same ..
  have R0 : RepR (setR S 0) (wI h 11 0 32 0) := R.j E0 e0
  obtain ⟨r1, r2, r3, r4, r5, r6, r7, -⟩ := id R0
  have hl := V.2.2.1
  have no : partA S x p y w = (0, 0) → K 0 (wI h 11 0 32 0) := fun z => by
    have := k (wI h 11 0 32 0) (by rw [z]; exact R0) rfl rfl
    rw [z] at this
    exact this
  have n4 : y < 0 ∨ 3 < y → asP 4 y = none := fun c => asP_n (by decide) (fun j hj z => by
    rcases c with c | c
    · rw [z] at c; exact nI_pos (by omega) c
    · rw [z] at c; exact nI_nlt (b := j) (a := 3) (by omega) (by decide) c)
  refine v193 hP 0 x p y w h (s159 r4 hl (fun hno => ⟨fun _ => ⟨_, rfl, no (part_n (Or.inl (shA_n (asP_n (by omega) hno))))⟩, fun c => absurd rfl c⟩) (fun j hj ej => ⟨(fun c => absurd c (by decide)), fun _ => ⟨fun c1 => ⟨_, rfl, no (part_n (Or.inr (Or.inl (n4 (Or.inl c1)))))⟩, fun c1 => ⟨fun c2 => ⟨_, rfl, no (part_n (Or.inr (Or.inl (n4 (Or.inr c2)))))⟩, fun c2 => s175 ⟨fun c3 => ?_, fun c3 => ⟨_, rfl, no (part_n (Or.inr (Or.inr (of4.mp (Classical.not_not.mp c3)))))⟩⟩⟩⟩⟩))
  rw [of4] at c3
  cases hw : asP 4 w with
  | none => exact absurd hw c3
  | some o =>
    obtain ⟨o1, o2⟩ := asP_v (by decide) hw
    obtain ⟨b, b1, b2⟩ := nI_of2 (M := 3) (n := 3) (by decide) c1 (by
      rw [Int32.le_iff_toInt_le]
      rw [Int32.lt_iff_toInt_lt] at c2
      omega)
    have hj : j < (tL S).length := hj
    have hg : (tL S)[j]? = some (tL S)[j] := List.getElem?_eq_getElem hj
    have hs := part_s (S := S) (x := x) (p := p) (shA_s (asP_s (by omega) hj ej) hg) (asP_s (by decide) (show b < 4 by omega) b2) hw
    have A := V.2.2.2.1 _ (List.mem_of_getElem? hg)
    have q := r5 j _ hg
    refine ⟨fun c4 => ?_, fun c4 => ⟨_, rfl, no ?_⟩⟩
    · rw [ej]
      refine s170 r1 q (fun e => ⟨fun c5 => absurd rfl c5, fun _ => ⟨_, rfl, no ?_⟩⟩) (fun pl e => ⟨fun _ => ?_, fun c5 => absurd (nI_m1 (by have := (plN_v e).1; omega)) c5⟩)
      · rw [hs, e]
      · obtain ⟨v1, v2⟩ := plN_v e
        obtain ⟨kn, k1, k2, k3⟩ := sh_k A.1 (show pl < 7 by omega) v2
        have hs2 : partA S x p y w = nvM (sfS (tD S o) Dcm b kn) (vlS (tL S)[j] pl) 8 := by rw [hs, e]; dsimp only; rw [k3]
        rw [b2, o2]
        refine s186 r1 q A.2.2.2.2.1 (by omega) o1 (r6 o o1) r7 (V.2.2.2.2.1 o o1) Dcm_v k2 k1 (fun h' E' e' => ⟨_, rfl, ?_⟩)
        have e2 : jI h' 11 0 32 = (nvM (sfS (tD S o) Dcm b kn) (vlS (tL S)[j] pl) 8).2 := by rw [e', e0, Int32.zero_add]; rfl
        have kk := k h' (by rw [hs2]; exact R.j (E0.trans E') e2) (E'.2.2.2.2.1) (E'.2.2.2.2.2.1)
        rw [hs2] at kk
        exact kk
    · rw [hs, show plN (tL S)[j] p 7 0 0 = none from plN_neg (j := 0) (Classical.not_not.mp (fun z => c4 (by
        rw [Int32.le_iff_toInt_le]
        rw [Int32.lt_iff_toInt_lt] at z
        omega))) (by decide)]
end
