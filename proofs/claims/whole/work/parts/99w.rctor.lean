/-! the reference's constructor -/
def hZ : Hp := (fun t => if t = 40 then 34 else if t = 41 then 34 else if t = 42 then 3 else 0, fun _ _ => 0, fun _ _ _ => 0, fun _ _ _ => 0, fun _ _ _ => none, 0, 0)
def arH (h : Hp) (t k n : Nat) : Hp := wR (mk h t n n) 11 0 k (some (jN h t))
def arL : List (Nat × Nat × Nat) := [(22, 0, 240), (22, 2, 241), (21, 12, 61), (21, 13, 61), (21, 14, 61), (21, 15, 3843), (22, 16, 700), (21, 18, 6), (21, 19, 6), (21, 20, 72), (21, 21, 72), (21, 22, 72), (21, 23, 72), (21, 24, 1440), (21, 25, 1440), (21, 26, 250), (21, 33, 2200), (21, 35, 12), (21, 36, 12), (21, 37, 12), (21, 38, 12), (24, 41, 100), (21, 42, 100), (21, 43, 100), (21, 44, 100), (21, 45, 100), (21, 46, 3200), (21, 47, 100)]
def rM : Hp := arL.foldl (fun h q => arH h q.1 q.2.1 q.2.2) (mk hZ 11 0 48)
theorem rM_sh : RSh rM := by
  unfold RSh
  decide +kernel
theorem rM_c : jC rM = 29 ∧ jZ rM ≤ 20000 := by decide +kernel
/-- nothing done yet -/
def S0 : Sta := ((0, fun _ => 0), [], fun _ => [], [], 0, (0, fun _ => false, fun _ => none, fun _ => 0, fun _ => none))
theorem V_0 : StV S0 := ⟨by decide, (fun _ => rfl), by decide, (fun sh hs => by cases hs), (fun o _ b hb => by cases hb), ⟨by decide, by decide, fun i hi => absurd hi (Nat.not_lt_zero _), fun i hi => absurd hi (Nat.not_lt_zero _), fun i hi => absurd hi (Nat.not_lt_zero _)⟩⟩
def Rk (h : Hp) (D : List Bod) (m : Nat) : Prop := RSh h ∧ EqX (XC 4) rM h ∧ RpG h 4 D m
section
variable {d : Nat} {D : List Bod} {h : Hp} {K : Hp → Prop}
theorem k115 {r k2 : Nat} (Q : Rk h D D.length) (h12 : D.length < 12) (k : ∀ h', Rk h' (D ++ [(r, k2, [])]) D.length → K h') : CV (d + 1) 115 [vR 11 (some 0), vI 4, vI (nI r), vI (nI k2)] h K := by
  obtain ⟨S, E, q⟩ := Q
  have q2 := q.2.1
  refine s115 (o := 4) S (by decide) q.2.2.1 h12 q.2.2.2.1 (k _ ?_)
  have E1 : EqX (XC 4) rM (bgH h 4 D.length (fl D).length (nI r) (nI k2)) := ((((E.wI _ ⟨rfl, Or.inr (Or.inl ⟨by decide, by decide, by omega, by omega⟩)⟩).wI _ ⟨rfl, Or.inr (Or.inl ⟨by decide, by decide, by omega, by omega⟩)⟩).wI _ ⟨rfl, Or.inr (Or.inl ⟨by decide, by decide, by omega, by omega⟩)⟩).wI _ ⟨rfl, Or.inr (Or.inl ⟨by decide, by decide, by omega, by omega⟩)⟩).wI _ ⟨rfl, Or.inl ⟨Or.inl rfl, rfl⟩⟩
  exact ⟨E1.sh rM_sh, E1, q.beg h12 (Nat.le_refl _)⟩
theorem k116 {b : Bod} {x : Nat} {w v : Int32} (Q : Rk h (D ++ [b]) D.length) (hlt : (fl (D ++ [b])).length < 240) (hw : w = opN x) (hv : x < 10000 → v = nI x) (k : ∀ h', Rk h' (D ++ [(b.1, b.2.1, b.2.2 ++ [x])]) D.length → K h') : CV (d + 1) 116 [vR 11 (some 0), vI 4, vI w, vI v] h K := by
  obtain ⟨S, E, q⟩ := Q
  subst hw
  refine s116 (o := 4) S (by decide) q.2.2.2.1 hlt (k _ ?_)
  have E1 : EqX (XC 4) rM (cdH h 4 (fl (D ++ [b])).length (opN x) v) := ((E.wI _ ⟨rfl, Or.inr (Or.inr ⟨Or.inl rfl, by omega, by omega⟩)⟩).wI _ ⟨rfl, Or.inr (Or.inr ⟨Or.inr rfl, by omega, by omega⟩)⟩).wI _ ⟨rfl, Or.inl ⟨Or.inr rfl, rfl⟩⟩
  exact ⟨E1.sh rM_sh, E1, q.code (Nat.le_refl _) hlt hv⟩
theorem k117 {b : Bod} (Q : Rk h (D ++ [b]) D.length) (h12 : D.length < 12) (k : ∀ h', Rk h' (D ++ [b]) (D ++ [b]).length → K h') : CV (d + 1) 117 [vR 11 (some 0), vI 4] h K := by
  obtain ⟨S, E, q⟩ := Q
  have el : (D ++ [b]).length = D.length + 1 := by rw [List.length_append]; rfl
  have q2 := q.2.1
  have hb := q.2.2.1
  rw [el] at hb k
  refine s117 (o := 4) S (by decide) hb h12 q.2.2.2.1 (k _ ?_)
  have E1 : EqX (XC 4) rM (wI h 21 9 (12 * 4 + D.length) (nI (fl (D ++ [b])).length)) := E.wI _ ⟨rfl, Or.inr (Or.inl ⟨by decide, by decide, by omega, by omega⟩)⟩
  exact ⟨E1.sh rM_sh, E1, q.ends⟩
end
theorem rM_0 : jI rM 11 0 1 = 0 ∧ jI rM 11 0 11 = 0 ∧ jI rM 11 0 17 = 0 ∧ jI rM 11 0 32 = 0 ∧ jI rM 11 0 40 = 0 ∧ (∀ o, o < 5 → jI rM 21 4 o = nI 0 ∧ jI rM 21 5 o = nI 0) := by decide +kernel
theorem RpG.z {h : Hp} {o : Nat} (h1 : jI h 21 4 o = nI 0) (h2 : jI h 21 5 o = nI 0) : RpG h o [] ([] : List Bod).length := ⟨by decide, by decide, h1, h2, (fun i b e => by cases e), (fun j x e => by cases e)⟩
/-- commons() -/
theorem s114 {d : Nat} {K : Hp → Prop} (k : ∀ h', Rk h' Dcm Dcm.length → K h') : CV (d + 2) 114 [vR 11 (some 0)] rM K := by
  intro P hP
  have Q0 : Rk rM [] ([] : List Bod).length := ⟨rM_sh, EqX.refl _ _, RpG.z (rM_0.2.2.2.2.2 4 (by decide)).1 (rM_0.2.2.2.2.2 4 (by decide)).2⟩
  refine v114 hP 0 rM ?_
  refine k115 (r := 0) (k2 := 0) Q0 (by decide) (fun h1 Q => ?_)
  refine k116 (x := 10000) Q (by decide) (by decide +kernel) (fun z => absurd z (by decide)) (fun h2 Q => ?_)
  refine k116 (x := 10000) Q (by decide) (by decide +kernel) (fun z => absurd z (by decide)) (fun h3 Q => ?_)
  refine k116 (x := 10001) Q (by decide) (by decide +kernel) (fun z => absurd z (by decide)) (fun h4 Q => ?_)
  refine k116 (x := 20003) Q (by decide) (by decide +kernel) (fun z => absurd z (by decide)) (fun h5 Q => ?_)
  refine k116 (x := 20002) Q (by decide) (by decide +kernel) (fun z => absurd z (by decide)) (fun h6 Q => ?_)
  refine k117 Q (by decide) (fun h7 Q => ?_)
  refine k115 (r := 1) (k2 := 2) Q (by decide) (fun h8 Q => ?_)
  refine k116 (x := 10003) Q (by decide) (by decide +kernel) (fun z => absurd z (by decide)) (fun h9 Q => ?_)
  refine k116 (x := 3) Q (by decide) (by decide +kernel) (fun z => rfl) (fun h10 Q => ?_)
  refine k116 (x := 20005) Q (by decide) (by decide +kernel) (fun z => absurd z (by decide)) (fun h11 Q => ?_)
  refine k117 Q (by decide) (fun h12 Q => ?_)
  refine k115 (r := 2) (k2 := 0) Q (by decide) (fun h13 Q => ?_)
  refine k116 (x := 0) Q (by decide) (by decide +kernel) (fun z => rfl) (fun h14 Q => ?_)
  refine k117 Q (by decide) (fun h15 Q => ?_)
  refine k115 (r := 2) (k2 := 15) Q (by decide) (fun h16 Q => ?_)
  refine k116 (x := 10001) Q (by decide) (by decide +kernel) (fun z => absurd z (by decide)) (fun h17 Q => ?_)
  refine k116 (x := 1) Q (by decide) (by decide +kernel) (fun z => rfl) (fun h18 Q => ?_)
  refine k116 (x := 20004) Q (by decide) (by decide +kernel) (fun z => absurd z (by decide)) (fun h19 Q => ?_)
  refine k117 Q (by decide) (fun h20 Q => ?_)
  refine k115 (r := 3) (k2 := 0) Q (by decide) (fun h21 Q => ?_)
  refine k116 (x := 1) Q (by decide) (by decide +kernel) (fun z => rfl) (fun h22 Q => ?_)
  refine k117 Q (by decide) (fun h23 Q => ?_)
  refine k115 (r := 3) (k2 := 1) Q (by decide) (fun h24 Q => ?_)
  refine k116 (x := 10008) Q (by decide) (by decide +kernel) (fun z => absurd z (by decide)) (fun h25 Q => ?_)
  refine k116 (x := 1) Q (by decide) (by decide +kernel) (fun z => rfl) (fun h26 Q => ?_)
  refine k116 (x := 20000) Q (by decide) (by decide +kernel) (fun z => absurd z (by decide)) (fun h27 Q => ?_)
  refine k117 Q (by decide) (fun h28 Q => ⟨rfl, ?_⟩)
  exact k h28 Q
theorem D113 {d : Nat} {K : Hp → Prop} (k : ∀ h', RepR S0 h' → jC h' = jC rM → jZ h' = jZ rM → K h') : CV (d + 3) 113 [vR 11 (some 0)] (mk hZ 11 0 48) K := by
  intro P hP
  refine v113 hP 0 (mk hZ 11 0 48) ?_
  intro a1 h2 e1 e2 a3 h4 e3 e4 a5 h6 e5 e6 a7 h8 e7 e8 a9 h10 e9 e10 a11 h12 e11 e12 a13 h14 e13 e14 a15 h16 e15 e16 a17 h18 e17 e18 a19 h20 e19 e20 a21 h22 e21 e22 a23 h24 e23 e24 a25 h26 e25 e26 a27 h28 e27 e28 a29 h30 e29 e30 a31 h32 e31 e32 a33 h34 e33 e34 a35 h36 e35 e36 a37 h38 e37 e38 a39 h40 e39 e40 a41 h42 e41 e42 a43 h44 e43 e44 a45 h46 e45 e46 a47 h48 e47 e48 a49 h50 e49 e50 a51 h52 e51 e52 a53 h54 e53 e54 a55 h56 e55 e56
  have eM : wR h56 11 0 47 (some a55) = rM := by
    rw [e56, e55, e54, e53, e52, e51, e50, e49, e48, e47, e46, e45, e44, e43, e42, e41, e40, e39, e38, e37, e36, e35, e34, e33, e32, e31, e30, e29, e28, e27, e26, e25, e24, e23, e22, e21, e20, e19, e18, e17, e16, e15, e14, e13, e12, e11, e10, e9, e8, e7, e6, e5, e4, e3, e2, e1]
    rfl
  rw [eM]
  refine s114 (fun h' Q => ⟨rfl, ?_⟩)
  obtain ⟨S, E, q⟩ := Q
  have z := rM_0
  have x11 : ∀ j, ¬ XC 4 11 0 j := fun j y => by cases y.1
  have x : ∀ a o, o < 4 → a = 4 ∨ a = 5 → ¬ XC 4 21 a o := fun a o h1 h2 y => by rcases y.2 with w | w | w <;> omega
  refine k h' ⟨S, ?_, fun j hj => absurd hj (Nat.not_lt_zero _), ?_, (fun k sh e => by cases e), fun o ho => ?_, q, ⟨by decide, ?_, (fun i x e => by cases e), (fun x hx => by cases hx)⟩, ?_, ?_, fun i hi => absurd hi (Nat.not_lt_zero _)⟩ E.2.2.2.2.1 E.2.2.2.2.2.1
  · rw [E.I (x11 1)]; exact z.1
  · rw [E.I (x11 11)]; exact z.2.1
  · refine RpG.z ?_ ?_
    · rw [E.I (x 4 o ho (Or.inl rfl))]; exact (z.2.2.2.2.2 o (by omega)).1
    · rw [E.I (x 5 o ho (Or.inr rfl))]; exact (z.2.2.2.2.2 o (by omega)).2
  · rw [E.I (x11 17)]; exact z.2.2.1
  · rw [E.I (x11 32)]; exact z.2.2.2.1
  · rw [E.I (x11 40)]; exact z.2.2.2.2.1
