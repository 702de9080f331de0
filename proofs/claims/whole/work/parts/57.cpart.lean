/-! THE CLASS's heap: what a call may change; a part -/
/-- H' is H but for new cells and the slots in X; so many cells and slots more -/
def Fr (X : Nat → Nat → Nat → Prop) (c z : Nat) (H H' : Hp) : Prop := (∀ t, jN H t ≤ jN H' t) ∧ (∀ t a, a < jN H t → jLen H' t a = jLen H t a) ∧ (∀ t a k, a < jN H t → ¬ X t a k → jI H' t a k = jI H t a k ∧ jR H' t a k = jR H t a k ∧ jL H' t a k = jL H t a k) ∧ jC H' ≤ jC H + c ∧ jZ H' ≤ jZ H + z
theorem Fr.refl (X : Nat → Nat → Nat → Prop) (H : Hp) : Fr X 0 0 H H := ⟨fun _ => Nat.le_refl _, fun _ _ _ => rfl, fun _ _ _ _ _ => ⟨rfl, rfl, rfl⟩, Nat.le_refl _, Nat.le_refl _⟩
theorem Fr.mk {X : Nat → Nat → Nat → Prop} {c z : Nat} {H G : Hp} (F : Fr X c z H G) (t n sl : Nat) : Fr X (c + 1) (z + sl) H (_root_.Jvm.Pilot.CHeraldDeskLaw_law_r4028_bc851c.mk G t n sl) := by
  obtain ⟨f1, f2, f3, f4, f5⟩ := F
  refine ⟨fun t' => ?_, fun t' a ha => ?_, fun t' a k ha hX => ?_, ?_, ?_⟩
  · have h1 := f1 t'
    show jN H t' ≤ if t' = t then jN G t + 1 else jN G t'
    by_cases e : t' = t
    · rw [if_pos e, ← e]; omega
    · rw [if_neg e]; exact h1
  · have h1 := f1 t'
    rw [← f2 t' a ha]
    exact if_neg (fun e => by rw [e.1] at ha h1; have := e.2; omega)
  · have h1 := f1 t'
    have hn : ¬ (t' = t ∧ a = jN G t) := fun e => by rw [e.1] at ha h1; have := e.2; omega
    obtain ⟨g1, g2, g3⟩ := f3 t' a k ha hX
    exact ⟨(if_neg hn).trans g1, (if_neg hn).trans g2, (if_neg hn).trans g3⟩
  · show jC G + 1 ≤ _; omega
  · show jZ G + sl ≤ _; omega
theorem Fr.wI {X : Nat → Nat → Nat → Prop} {c z : Nat} {H G : Hp} (F : Fr X c z H G) {t a k : Nat} (v : Int32) (h : jN H t ≤ a ∨ X t a k) : Fr X c z H (_root_.Jvm.Pilot.CHeraldDeskLaw_law_r4028_bc851c.wI G t a k v) := by
  obtain ⟨f1, f2, f3, f4, f5⟩ := F
  refine ⟨f1, f2, fun t' a' k' ha hX => ?_, f4, f5⟩
  obtain ⟨g1, g2, g3⟩ := f3 t' a' k' ha hX
  have hn : ¬ (t' = t ∧ a' = a ∧ k' = k) := by
    intro e
    obtain ⟨e1, e2, e3⟩ := e
    rcases h with h | h
    · rw [← e1] at h; omega
    · rw [e1, e2, e3] at hX; exact hX h
  exact ⟨(if_neg hn).trans g1, g2, g3⟩
theorem Fr.wR {X : Nat → Nat → Nat → Prop} {c z : Nat} {H G : Hp} (F : Fr X c z H G) {t a k : Nat} (v : Option Nat) (h : jN H t ≤ a ∨ X t a k) : Fr X c z H (_root_.Jvm.Pilot.CHeraldDeskLaw_law_r4028_bc851c.wR G t a k v) := by
  obtain ⟨f1, f2, f3, f4, f5⟩ := F
  refine ⟨f1, f2, fun t' a' k' ha hX => ?_, f4, f5⟩
  obtain ⟨g1, g2, g3⟩ := f3 t' a' k' ha hX
  have hn : ¬ (t' = t ∧ a' = a ∧ k' = k) := by
    intro e
    obtain ⟨e1, e2, e3⟩ := e
    rcases h with h | h
    · rw [← e1] at h; omega
    · rw [e1, e2, e3] at hX; exact hX h
  exact ⟨g1, (if_neg hn).trans g2, g3⟩
theorem Fr.wL {X : Nat → Nat → Nat → Prop} {c z : Nat} {H G : Hp} (F : Fr X c z H G) {t a k : Nat} (v : Int64) (h : jN H t ≤ a ∨ X t a k) : Fr X c z H (_root_.Jvm.Pilot.CHeraldDeskLaw_law_r4028_bc851c.wL G t a k v) := by
  obtain ⟨f1, f2, f3, f4, f5⟩ := F
  refine ⟨f1, f2, fun t' a' k' ha hX => ?_, f4, f5⟩
  obtain ⟨g1, g2, g3⟩ := f3 t' a' k' ha hX
  have hn : ¬ (t' = t ∧ a' = a ∧ k' = k) := by
    intro e
    obtain ⟨e1, e2, e3⟩ := e
    rcases h with h | h
    · rw [← e1] at h; omega
    · rw [e1, e2, e3] at hX; exact hX h
  exact ⟨g1, g2, (if_neg hn).trans g3⟩
theorem Fr.trans {X Y Z : Nat → Nat → Nat → Prop} {c z c' z' : Nat} {H G J : Hp} (F : Fr X c z H G) (E : Fr Y c' z' G J) (h1 : ∀ t a k, a < jN H t → X t a k → Z t a k) (h2 : ∀ t a k, a < jN H t → Y t a k → Z t a k) : Fr Z (c + c') (z + z') H J := by
  obtain ⟨f1, f2, f3, f4, f5⟩ := F
  obtain ⟨e1, e2, e3, e4, e5⟩ := E
  refine ⟨fun t => Nat.le_trans (f1 t) (e1 t), fun t a ha => ?_, fun t a k ha hZ => ?_, by omega, by omega⟩
  · rw [e2 t a (Nat.lt_of_lt_of_le ha (f1 t)), f2 t a ha]
  · obtain ⟨g1, g2, g3⟩ := f3 t a k ha (fun x => hZ (h1 t a k ha x))
    obtain ⟨i1, i2, i3⟩ := e3 t a k (Nat.lt_of_lt_of_le ha (f1 t)) (fun x => hZ (h2 t a k ha x))
    exact ⟨i1.trans g1, i2.trans g2, i3.trans g3⟩
theorem Fr.le {X : Nat → Nat → Nat → Prop} {c z c' z' : Nat} {H G : Hp} (F : Fr X c z H G) (h1 : c ≤ c') (h2 : z ≤ z') : Fr X c' z' H G := by
  obtain ⟨f1, f2, f3, f4, f5⟩ := F
  exact ⟨f1, f2, f3, by omega, by omega⟩
/-- the part pt with its duties da, at place pl, has the cells r -/
def PtOK (H : Hp) (pt da pl : Nat) (r : Nat → Int32) : Prop := jI H 3 pt 0 = nI pl ∧ jI H 3 pt 1 = r 0 ∧ jI H 3 pt 2 = r 2 ∧ jI H 3 pt 3 = r 3 ∧ jI H 3 pt 4 = r 1 ∧ jR H 3 pt 5 = some da ∧ jLen H 21 da = 5 ∧ ∀ i, i < 5 → jI H 21 da i = r (4 + i)
def X33 (pa pl : Nat) : Nat → Nat → Nat → Prop := fun t a k => t = 33 ∧ a = pa ∧ k = pl
/-- a part made new since H0, at place pl of the row pa -/
def NewP (H0 H : Hp) (pa pl : Nat) (r : Nat → Int32) : Prop := Fr (X33 pa pl) 2 11 H0 H ∧ jN H0 3 < jN H 3 ∧ jN H0 21 < jN H 21 ∧ jR H 33 pa pl = some (jN H0 3) ∧ PtOK H (jN H0 3) (jN H0 21) pl r
theorem jR_same (h : Hp) (t a k : Nat) (v : Option Nat) : jR (wR h t a k v) t a k = v := up3_eq _ _ _ _ _
theorem jR_k {h : Hp} {t a k t' a' j : Nat} {v : Option Nat} (hj : j ≠ k) : jR (wR h t a k v) t' a' j = jR h t' a' j := up3_k hj
theorem NewP.w {H0 H : Hp} {pa pl : Nat} {r : Nat → Int32} (N : NewP H0 H pa pl r) (v : Int32) : NewP H0 (wI H 3 (jN H0 3) 3 v) pa pl (st r 3 v) ∧ NewP H0 (wI H 3 (jN H0 3) 4 v) pa pl (st r 1 v) ∧ ∀ i, i < 5 → NewP H0 (wI H 21 (jN H0 21) i v) pa pl (st r (4 + i) v) := by
  obtain ⟨F, n1, n2, n3, q0, q1, q2, q3, q4, q5, q6, q7⟩ := N
  refine ⟨⟨F.wI v (Or.inl (Nat.le_refl _)), n1, n2, n3, ?_, ?_, ?_, ?_, ?_, q5, q6, ?_⟩, ⟨F.wI v (Or.inl (Nat.le_refl _)), n1, n2, n3, ?_, ?_, ?_, ?_, ?_, q5, q6, ?_⟩, fun i hi => ⟨F.wI v (Or.inl (Nat.le_refl _)), n1, n2, n3, ?_, ?_, ?_, ?_, ?_, q5, q6, ?_⟩⟩
  · rw [jI_k (by decide)]; exact q0
  · rw [jI_k (by decide), st_ne (by decide)]; exact q1
  · rw [jI_k (by decide), st_ne (by decide)]; exact q2
  · rw [jI_same, st_eq]
  · rw [jI_k (by decide), st_ne (by decide)]; exact q4
  · intro i hi; rw [jI_t (by decide), st_ne (by omega)]; exact q7 i hi
  · rw [jI_k (by decide)]; exact q0
  · rw [jI_k (by decide), st_ne (by decide)]; exact q1
  · rw [jI_k (by decide), st_ne (by decide)]; exact q2
  · rw [jI_k (by decide), st_ne (by decide)]; exact q3
  · rw [jI_same, st_eq]
  · intro i hi; rw [jI_t (by decide), st_ne (by omega)]; exact q7 i hi
  · rw [jI_t (by decide)]; exact q0
  · rw [jI_t (by decide), st_ne (by omega)]; exact q1
  · rw [jI_t (by decide), st_ne (by omega)]; exact q2
  · rw [jI_t (by decide), st_ne (by omega)]; exact q3
  · rw [jI_t (by decide), st_ne (by omega)]; exact q4
  · intro j hj
    by_cases e : j = i
    · rw [e, jI_same, st_eq]
    · rw [jI_k e, st_ne (by omega)]; exact q7 j hj
/-- new Part(place, kind, number), set into the shield -/
theorem newP {d n a s pa pl p : Nat} {tx : Nat → Int32} {H h : Hp} {kind num : Int32} {K : Hp → Prop} (R : TkN H h 0 a n tx p) (hs : jR H 7 s 3 = some pa) (hl : jLen H 33 pa = 7) (hpl : pl < 7) (k : ∀ H' h', TkN H' h' 0 a n tx p → NewP H H' pa pl (st (st emR 0 kind) 2 num) → K h') : ∀ a8 h9, a8 = jN h 3 → h9 = mk h 3 0 6 → CV (d + 1) 22 [vR 3 (some a8), vI (nI pl), vI kind, vI num] h9 (fun h10 => dr (some s) (fun a11 => CV (d + 1) 53 [vR 7 (some a11), vR 3 (some a8)] h10 K)) := by
  intro a8 h9 e8 e9
  rw [R.N] at e8
  subst e8
  have R1 := R.mk (t := 3) 0 6 (by decide) (by decide)
  rw [← e9] at R1
  clear e9
  intro P hP
  refine v22 hP (jN H 3) (nI pl) kind num h9 (fun a1 h2 ea eh => ?_)
  have ea : a1 = jN H 21 := by rw [ea, R1.N]; rfl
  subst ea
  have R2 := R1.mk (t := 21) 5 5 (by decide) (by decide)
  rw [← eh] at R2
  clear eh
  have l5 : jLen h2 21 (jN H 21) = 5 := by
    rw [R2.len]
    exact if_pos ⟨rfl, rfl⟩
  have R3 := (((((R2.wI (t := 21) (jN H 21) 0 (-1) (by decide) (by decide)).wI (t := 21) (jN H 21) 1 (-1) (by decide) (by decide)).wI (t := 21) (jN H 21) 2 (-1) (by decide) (by decide)).wI (t := 21) (jN H 21) 3 (-1) (by decide) (by decide)).wI (t := 21) (jN H 21) 4 (-1) (by decide) (by decide)).wR (t := 3) (jN H 3) 5 (some (jN H 21)) (by decide)
  have R4 := ((R3.wI (t := 3) (jN H 3) 0 (nI pl) (by decide) (by decide)).wI (t := 3) (jN H 3) 1 kind (by decide) (by decide)).wI (t := 3) (jN H 3) 2 num (by decide) (by decide)
  clear R1 R2 R3
  have vv : ∀ i, i < 5 → ∀ {g : Hp}, jLen g 21 (jN H 21) = 5 → vp_in (nI i) (jLen g 21 (jN H 21)) := fun i hi g e => by rw [e]; exact vp_in_nI hi (by decide)
  refine ⟨vv 0 (by decide) l5, vv 1 (by decide) l5, vv 2 (by decide) l5, vv 3 (by decide) l5, vv 4 (by decide) l5, rfl, ?_⟩
  generalize hG : wI (wI (wI (wR (wI (wI (wI (wI (wI (mk (mk H 3 0 6) 21 5 5) 21 (jN H 21) 0 (-1)) 21 (jN H 21) 1 (-1)) 21 (jN H 21) 2 (-1)) 21 (jN H 21) 3 (-1)) 21 (jN H 21) 4 (-1)) 3 (jN H 3) 5 (some (jN H 21))) 3 (jN H 3) 0 (nI pl)) 3 (jN H 3) 1 kind) 3 (jN H 3) 2 num = G at R4
  generalize wI (wI (wI (wR (wI (wI (wI (wI (wI h2 21 (jN H 21) 0 (-1)) 21 (jN H 21) 1 (-1)) 21 (jN H 21) 2 (-1)) 21 (jN H 21) 3 (-1)) 21 (jN H 21) 4 (-1)) 3 (jN H 3) 5 (some (jN H 21))) 3 (jN H 3) 0 (nI pl)) 3 (jN H 3) 1 kind) 3 (jN H 3) 2 num = g at R4 ⊢
  have F : Fr (X33 pa pl) 2 11 H G := by
    rw [← hG]
    exact (((((((((((Fr.refl _ H).mk 3 0 6).mk 21 5 5).wI (-1) (Or.inl (Nat.le_refl _))).wI (-1) (Or.inl (Nat.le_refl _))).wI (-1) (Or.inl (Nat.le_refl _))).wI (-1) (Or.inl (Nat.le_refl _))).wI (-1) (Or.inl (Nat.le_refl _))).wR (some (jN H 21)) (Or.inl (Nat.le_refl _))).wI (nI pl) (Or.inl (Nat.le_refl _))).wI kind (Or.inl (Nat.le_refl _))).wI num (Or.inl (Nat.le_refl _))
  have g3 : jN G 3 = jN H 3 + 1 := by rw [← hG]; rfl
  have g21 : jN G 21 = jN H 21 + 1 := by rw [← hG]; rfl
  have q5 : jR G 3 (jN H 3) 5 = some (jN H 21) := by rw [← hG]; exact jR_same _ _ _ _ _
  have q6 : jLen G 21 (jN H 21) = 5 := by rw [← hG]; exact if_pos ⟨rfl, rfl⟩
  have qi : jI G 3 (jN H 3) 0 = nI pl ∧ jI G 3 (jN H 3) 1 = kind ∧ jI G 3 (jN H 3) 2 = num ∧ jI G 3 (jN H 3) 3 = 0 ∧ jI G 3 (jN H 3) 4 = 0 := by
    rw [← hG]
    refine ⟨?_, ?_, jI_same _ _ _ _ _, ?_, ?_⟩
    · rw [jI_k (by decide), jI_k (by decide)]; exact jI_same _ _ _ _ _
    · rw [jI_k (by decide)]; exact jI_same _ _ _ _ _
    · rw [jI_k (by decide), jI_k (by decide), jI_k (by decide)]
      show jI (wI (wI (wI (wI (wI (mk (mk H 3 0 6) 21 5 5) 21 (jN H 21) 0 (-1)) 21 (jN H 21) 1 (-1)) 21 (jN H 21) 2 (-1)) 21 (jN H 21) 3 (-1)) 21 (jN H 21) 4 (-1)) 3 (jN H 3) 3 = 0
      rw [jI_t (by decide), jI_t (by decide), jI_t (by decide), jI_t (by decide), jI_t (by decide), mkT_I (by decide)]
      exact mk_I _ _ _ _ _
    · rw [jI_k (by decide), jI_k (by decide), jI_k (by decide)]
      show jI (wI (wI (wI (wI (wI (mk (mk H 3 0 6) 21 5 5) 21 (jN H 21) 0 (-1)) 21 (jN H 21) 1 (-1)) 21 (jN H 21) 2 (-1)) 21 (jN H 21) 3 (-1)) 21 (jN H 21) 4 (-1)) 3 (jN H 3) 4 = 0
      rw [jI_t (by decide), jI_t (by decide), jI_t (by decide), jI_t (by decide), jI_t (by decide), mkT_I (by decide)]
      exact mk_I _ _ _ _ _
  have q7 : ∀ i, i < 5 → jI G 21 (jN H 21) i = -1 := by
    intro i hi
    rw [← hG, jI_t (by decide), jI_t (by decide), jI_t (by decide)]
    show jI (wI (wI (wI (wI (wI (mk (mk H 3 0 6) 21 5 5) 21 (jN H 21) 0 (-1)) 21 (jN H 21) 1 (-1)) 21 (jN H 21) 2 (-1)) 21 (jN H 21) 3 (-1)) 21 (jN H 21) 4 (-1)) 21 (jN H 21) i = -1
    have hc : i = 0 ∨ i = 1 ∨ i = 2 ∨ i = 3 ∨ i = 4 := by omega
    rcases hc with rfl | rfl | rfl | rfl | rfl
    · rw [jI_k (by decide), jI_k (by decide), jI_k (by decide), jI_k (by decide)]; exact jI_same _ _ _ _ _
    · rw [jI_k (by decide), jI_k (by decide), jI_k (by decide)]; exact jI_same _ _ _ _ _
    · rw [jI_k (by decide), jI_k (by decide)]; exact jI_same _ _ _ _ _
    · rw [jI_k (by decide)]; exact jI_same _ _ _ _ _
    · exact jI_same _ _ _ _ _
  have r7 : jR G 7 s 3 = some pa := by
    rw [← hG]
    show jR (wR (wI (wI (wI (wI (wI (mk (mk H 3 0 6) 21 5 5) 21 (jN H 21) 0 (-1)) 21 (jN H 21) 1 (-1)) 21 (jN H 21) 2 (-1)) 21 (jN H 21) 3 (-1)) 21 (jN H 21) 4 (-1)) 3 (jN H 3) 5 (some (jN H 21))) 7 s 3 = some pa
    rw [jR_t (by decide)]
    show jR (mk (mk H 3 0 6) 21 5 5) 7 s 3 = some pa
    rw [mkT_R (by decide), mkT_R (by decide)]
    exact hs
  have l33 : jLen G 33 pa = 7 := by
    rw [← hG]
    show jLen (mk (mk H 3 0 6) 21 5 5) 33 pa = 7
    rw [mkT_n (by decide), mkT_n (by decide)]
    exact hl
  clear hG l5 vv hP
  refine dr_of rfl (fun P hP => ?_)
  have i0 : jI g 3 (jN H 3) 0 = nI pl := by rw [R4.I (by decide)]; exact qi.1
  refine v53 hP s (some (jN H 3)) g (dr_of rfl ⟨fun c => absurd (by rw [i0] at c; exact c) (nI_pos (by omega)), fun _ => dr_of rfl ⟨fun c => absurd (by rw [i0] at c; exact c) (nI_ge (b := 7) (by omega) (by omega)), fun _ => dr_of rfl (dr_of (by rw [R4.R]; exact r7) ⟨?_, rfl, ?_⟩)⟩⟩)
  · rw [i0, R4.len, l33]; exact vp_in_nI hpl (by decide)
  · rw [i0, show ix (nI pl) = pl from nI_clamp (by omega)]
    refine k _ _ (R4.wR (t := 33) pa pl (some (jN H 3)) (by decide)) ⟨F.wR _ (Or.inr ⟨rfl, rfl, rfl⟩), ?_, ?_, jR_same _ _ _ _ _, qi.1, ?_, ?_, ?_, ?_, ?_, q6, ?_⟩
    · show jN H 3 < jN G 3; omega
    · show jN H 21 < jN G 21; omega
    · rw [st_ne (by decide), st_eq]; exact qi.2.1
    · rw [st_eq]; exact qi.2.2.1
    · rw [st_ne (by decide), st_ne (by decide)]; exact qi.2.2.2.1
    · rw [st_ne (by decide), st_ne (by decide)]; exact qi.2.2.2.2
    · rw [jR_t (by decide)]; exact q5
    · intro i hi
      rw [st_ne (by omega), st_ne (by omega)]
      show jI G 21 (jN H 21) i = emR (4 + i)
      rw [q7 i hi]
      unfold emR
      rw [if_neg (by omega)]
