theorem ok5a : (List.range 240).all (fun y => !okY y || (mCo y).all (fun q => okI y q.2)) = true := by decide +kernel
theorem mtl6 : mtl.length = 6 := by decide +kernel
theorem ok5y : ∀ y, okY y = true → ∀ pc i, lk (mCo y) pc = some i → okI y i = true := by
  intro y hy pc i h
  rcases Nat.lt_or_ge y 240 with z | z
  · have h1 := List.all_eq_true.mp ok5a y (List.mem_range.mpr z)
    rw [hy] at h1
    have h2 : (mCo y).all (fun q => okI y q.2) = true := h1
    exact List.all_eq_true.mp h2 (pc, i) (lk_mem h)
  · have e : mtl.getD (y / 40) [] = [] := by
      rw [List.getD_eq_getElem?_getD, List.getElem?_eq_none (by rw [mtl6]; omega)]
      rfl
    have e2 : mCo y = [] := by
      unfold mCo mrow
      rw [e]
      rfl
    rw [e2] at h
    cases h
theorem CI.n5 {d y : Nat} {as : List AV} {h : Hp} {K : Int32 → Hp → Prop} (hy : okY y = true) (c : CI d y as h K) : CI d y as h (fun x h' => K x h' ∧ jN h' 5 = jN h 5) :=
  Call_mono (fun v h' z => by obtain ⟨⟨x, e, k⟩, n⟩ := z; exact ⟨x, e, k, n⟩) (Call_5 ok5y d y as h _ hy c)
theorem CR.n5 {d y t : Nat} {as : List AV} {h : Hp} {K : Option Nat → Hp → Prop} (hy : okY y = true) (c : CR d y t as h K) : CR d y t as h (fun x h' => K x h' ∧ jN h' 5 = jN h 5) :=
  Call_mono (fun v h' z => by obtain ⟨⟨x, e, k⟩, n⟩ := z; exact ⟨x, e, k, n⟩) (Call_5 ok5y d y as h _ hy c)
/-! the class: judge, part, points, write -/
def XJc : Nat → Nat → Nat → Prop := fun t a k => (t = 21 ∧ a = 10) ∨ (t = 0 ∧ a = 0 ∧ k = 4)
theorem RepC.j {S : Sta} {h h' : Hp} {r : Int32} (R : RepC S h) (F : Fr XJc 0 0 h h') (hN : jN h' 5 = jN h 5) (e : jI h' 0 0 4 = r) : RepC (setR S r) h' := by
  obtain ⟨H, T, ⟨si, Q⟩, ⟨pk, dr, B⟩, er, p1, p2, qa, g, G⟩ := R
  have x : ∀ t a k, t ≠ 21 → t ≠ 0 → ¬ XJc t a k := fun t a k h1 h2 z => by
    rcases z with z | z
    · exact h1 z.1
    · exact h2 z.1
  have x21 : ∀ a k, a ≠ 10 → ¬ XJc 21 a k := fun a k h1 z => by
    rcases z with z | z
    · exact h1 z.2
    · cases z.1
  have x0 : ∀ j, j < 4 → ¬ XJc 0 0 j := fun j hj z => by
    rcases z with z | z
    · cases z.1
    · omega
  refine ⟨H.fr F (fun k _ _ => x _ _ _ (by decide) (by decide)) (fun k => x _ _ _ (by decide) (by decide)) (fun k => x _ _ _ (by decide) (by decide)), T.fr H F (x _ _ _ (by decide) (by decide)) (fun j => x _ _ _ (by decide) (by decide)), ⟨si, Q.fr H F (x _ _ _ (by decide) (by decide)) (fun k => x _ _ _ (by decide) (by decide)) (fun a k => x _ _ _ (by decide) (by decide)) (fun a k h1 _ => x21 a k (by omega)) (fun a k => x _ _ _ (by decide) (by decide)) (fun a k => x _ _ _ (by decide) (by decide))⟩, ⟨pk, dr, B.fr F x0 (fun j => x _ _ _ (by decide) (by decide)) (fun a j => x _ _ _ (by decide) (by decide)) (fun a j _ h2 => x21 a j h2)⟩, e, p1.fr H F (fun k => x _ _ _ (by decide) (by decide)), p2.fr H F (fun k => x _ _ _ (by decide) (by decide)) (fun k => x _ _ _ (by decide) (by decide)), qa, g, G.fr F hN (fun k => x _ _ _ (by decide) (by decide)) (fun k => x _ _ _ (by decide) (by decide)) (fun a k => x _ _ _ (by decide) (by decide)) (fun a k h1 _ => x21 a k (by omega))⟩
theorem xjc {H G : Hp} (F : Fr X10 0 0 H G) : Fr XJc 0 0 H G := by
  obtain ⟨f1, f2, f3, f4, f5⟩ := F
  exact ⟨f1, f2, fun t a k h1 h2 => f3 t a k h1 (fun z => h2 (Or.inl z)), f4, f5⟩
section
variable {d : Nat} {S : Sta} {K : Int32 → Hp → Prop}
/-- numberOf over the desk's state -/
theorem n3 {j r o pl q : Nat} {sh : Nat → Int32} {h : Hp} {si : Nat → Nat} {pk : Nat → Nat} {dr pa : Nat} (V : StV S) (Q : ShOK h (si j) pa sh) (B : BeC h (tD S) pk dr) (hk : (tL S)[j]? = some sh) (ho : o < 4) (hpl : pl < 7) (hn : ¬ sh (3 + 9 * pl) = 0) (eq : jR h 33 pa pl = some q) (kk : ∀ h', Fr XJc 0 0 h h' → jN h' 5 = jN h 5 → jI h' 0 0 4 = jI h 0 0 4 + (nvM (sfS (tD S o) Dcm r (ix (sh (3 + 9 * pl)))) (vlS sh pl) 8).2 → K (nvM (sfS (tD S o) Dcm r (ix (sh (3 + 9 * pl)))) (vlS sh pl) 8).1 h') : CI (d + 6) 3 [vR 0 (some 0), vR 7 (some (si j)), vR 3 (some q), vI (nI r), vI (nI o)] h K := by
  have A := V.2.2.2.1 sh (List.mem_of_getElem? hk)
  obtain ⟨kn, k1, k2, k3⟩ := sh_k A.1 hpl hn
  obtain ⟨pt, da, a1, a2, a3, a4, a5⟩ := Q.at hpl hn
  have e : pt = q := by rw [a1] at eq; exact Option.some.inj eq
  subst e
  rw [k3] at kk
  refine CI.of ?_ (CI.n5 (by decide) (s3 (K := fun x h' => x = (nvM (sfS (tD S o) Dcm r kn) (vlS sh pl) 8).1 ∧ ∃ h1, Fr X10 0 0 h h1 ∧ h' = wI h1 0 0 4 (jI h1 0 0 4 + (nvM (sfS (tD S o) Dcm r kn) (vlS sh pl) 8).2)) B.1 (B.2.1 o ho) B.2.2 (V.2.2.2.2.1 o ho) Dcm_v Q A.2.2.1 hpl hn a2 a3 a5 k2 k1 ho (fun h' F => ⟨rfl, h', F, rfl⟩)))
  rintro x h' ⟨⟨rfl, h1, F, rfl⟩, n⟩
  have e4 : jI h1 0 0 4 = jI h 0 0 4 := (F.2.2.1 0 0 4 B.1.1.1 (fun z => by cases z.1)).1
  refine kk _ ((xjc F).wI _ (Or.inr (Or.inr ⟨rfl, rfl, rfl⟩))) n ?_
  rw [jI_same, e4]
theorem c99 {j r o : Nat} {x : Int32} {sh : Nat → Int32} {h0 : Hp} {si : Nat → Nat} {P : Nat → List AV → List AV → Hp → Prop} (hP : Cl (Call (d + 6)) 99 (fun v h' => ∃ x, v = some (vI x) ∧ K x h') P) (V : StV S) (R : RepC S h0) (Q : ShC h0 (tL S) si) (hk : (tL S)[j]? = some sh) (hr : r < 4) (ho : o < 4) (kk : ∀ h', Fr XJc 0 0 h0 h' → jN h' 5 = jN h0 5 → jI h' 0 0 4 = (jdS (tD S o) Dcm sh r 7).2 → K (jdS (tD S o) Dcm sh r 7).1 h') : ∀ (mm m : Nat) (w7 : AV) (h : Hp), m + mm = 7 → Fr XJc 0 0 h0 h → jN h 5 = jN h0 5 → jI h 0 0 4 = (jdS (tD S o) Dcm sh r m).2 → P 42 [vR 10 (some 0), vI x, vI (nI r), vI (nI o), vR 7 (some (si j)), vI (jdS (tD S o) Dcm sh r m).1, vI (nI m), w7] [] h
  | 0, m, w7, h, hm, F, n, e => by
    have h7 : m = 7 := by omega
    subst h7
    exact v99_42 hP 0 x (nI r) (nI o) _ _ (nI 7) w7 h ⟨fun _ => ⟨_, rfl, kk h F n e⟩, fun c => absurd (by decide) c⟩
  | mm + 1, m, w7, h, hm, F, n, e => by
    have R1 := R.j F n e
    obtain ⟨H1, -, -, ⟨pk, dr, B1⟩, -⟩ := id R1
    obtain ⟨-, pa, q0, -⟩ := Q.2.1 j sh hk
    have q : ShOK h (si j) pa sh := q0.fr F ⟨(fun a k z => by rcases z with z | z <;> cases z.1), (fun a k h31 z => by rcases z with z | z; omega; cases z.1), (fun k _ z => by rcases z with z | z <;> cases z.1), (fun k z => by rcases z with z | z <;> cases z.1)⟩
    refine v99_42 hP 0 x (nI r) (nI o) (some (si j)) _ (nI m) w7 h ⟨fun c => absurd c (nI_ge (b := 7) (by omega) (by decide)), fun _ => dr_of rfl (s56 q (by omega) ⟨fun c => ?_, fun c => dr_of H1.2.2.2.1.2.2.2.2.2.2.1 ?_⟩)⟩
    · rw [q.no (by omega)] at c
      rw [nI_1]
      have ih := fun w7 => c99 (x := x) hP V R Q hk hr ho kk mm (m + 1) w7 h (by omega) F n (by rw [jd_0 c]; exact e)
      rw [jd_0 c] at ih
      exact ih _
    · have c2 := c
      rw [q.no (by omega)] at c2
      cases hq : jR h 33 pa m with
      | none => exact absurd hq c
      | some pt =>
        refine n3 (S := S) (si := si) V q B1 hk ho (by omega) c2 hq (fun h' F' n' e' => ?_)
        rw [nI_1]
        have ih := fun w7 => c99 (x := x) hP V R Q hk hr ho kk mm (m + 1) w7 h' (by omega) (F.trans F' (fun _ _ _ _ z => z) (fun _ _ _ _ z => z)) (n'.trans n) (by rw [jd_1 c2, e', e])
        rw [jd_1 c2] at ih
        exact ih _
end
