/-! the reference's values of words, stepFrom, pushes -/
theorem s190 {d : Nat} {x : Int32} {h : Hp} {K : Int32 → Hp → Prop} (k : K (sortS x) h) : CI (d + 1) 190 [vI x] h K := by
  intro P hP
  have e : x ≤ 6 ↔ ¬ 7 ≤ x := by
    simp only [Int32.le_iff_toInt_le, Int32.reduceToInt]
    omega
  unfold sortS at k
  refine v190 hP x h ⟨fun c => ⟨fun c2 => ⟨_, rfl, ?_⟩, fun c2 => ⟨_, rfl, ?_⟩⟩, fun c => ⟨_, rfl, ?_⟩⟩
  · rw [if_pos c2, if_neg (e.mp c)] at k; exact k
  · rw [if_neg c2] at k; exact k
  · have c7 : 7 ≤ x := Classical.not_not.mp (fun z => c (e.mpr z))
    have c2 : 2 ≤ x := by
      simp only [Int32.le_iff_toInt_le, Int32.reduceToInt] at c7 ⊢
      omega
    rw [if_pos c2, if_pos c7] at k; exact k
/-- shield k of the reference has the cells sh -/
def RsK (h : Hp) (k : Nat) (sh : Nat → Int32) : Prop := k < 60 ∧ jI h 21 0 k = sh 0 ∧ jI h 21 1 k = sh 1 ∧ jI h 21 2 k = sh 2 ∧ ∀ i, i < 63 → jI h 21 3 (63 * k + i) = sh (3 + i)
theorem RsK.p {h : Hp} {k : Nat} {sh : Nat → Int32} (Q : RsK h k sh) {pl i : Nat} (hpl : pl < 7) (hi : i < 9) : jI h 21 3 (63 * k + (9 * pl + i)) = sh (3 + 9 * pl + i) := by
  rw [Q.2.2.2.2 (9 * pl + i) (by omega), show 3 + (9 * pl + i) = 3 + 9 * pl + i by omega]
theorem spot_e (k pl : Nat) : (nI k * 7 + nI pl) * 9 = nI (63 * k + 9 * pl) := by
  show (nI k * nI 7 + nI pl) * nI 9 = _
  rw [pk_mul, nI_add, pk_mul]; congr 1; omega
theorem spot_i (k pl i : Nat) : nI (63 * k + 9 * pl) + nI i = nI (63 * k + (9 * pl + i)) := by
  rw [nI_add]; congr 1; omega
theorem u171 {d k pl : Nat} {sh : Nat → Int32} {h : Hp} {K : Int32 → Hp → Prop} {P : Nat → List AV → List AV → Hp → Prop} (hP : Cl (Call d) 171 (fun v h' => ∃ x, v = some (vI x) ∧ K x h') P) (S : RSh h) (Q : RsK h k sh) (hpl : pl < 7) (kk : K (nI (dcN (fun i => sh (3 + 9 * pl + i)) 5)) h) : ∀ mm t, t + mm = 5 → P 4 [vR 11 (some 0), vI (nI (63 * k + 9 * pl)), vI (nI (dcN (fun i => sh (3 + 9 * pl + i)) t)), vI (nI t)] [] h
  | 0, t, ht => by
    have e : t = 5 := by omega
    subst e
    exact v171_4 hP 0 _ _ (nI 5) h ⟨fun _ => ⟨_, rfl, kk⟩, fun c => absurd (by decide) c⟩
  | mm + 1, t, ht => by
    have hk := Q.1
    have ih := u171 hP S Q hpl kk mm (t + 1) (by omega)
    unfold dcN at ih
    have e4 : nI (63 * k + 9 * pl) + 4 + nI t = nI (63 * k + (9 * pl + (4 + t))) := by
      show nI (63 * k + 9 * pl) + nI 4 + nI t = _
      rw [nI_add, nI_add]; congr 1; omega
    have ic : ix (nI (63 * k + (9 * pl + (4 + t)))) = 63 * k + (9 * pl + (4 + t)) := nI_clamp (by omega)
    refine v171_4 hP 0 _ _ (nI t) h ⟨fun c => absurd c (nI_ge (b := 5) (by omega) (by omega)), fun _ => ?_⟩
    rw [e4, ic]
    refine dr_of S.r15 ⟨vp3843 (by omega) hpl (by omega) S.n15, fun c => ?_, fun c => ?_⟩
    · rw [Q.p hpl (by omega)] at c
      rw [if_pos c] at ih
      rw [nI_1, Int32.add_zero]
      exact ih
    · rw [Q.p hpl (by omega)] at c
      rw [if_neg c] at ih
      rw [nI_1, nI_1]
      exact ih
theorem s171 {d k pl : Nat} {sh : Nat → Int32} {h : Hp} {K : Int32 → Hp → Prop} (S : RSh h) (Q : RsK h k sh) (hpl : pl < 7) (kk : K (nI (dcN (fun i => sh (3 + 9 * pl + i)) 5)) h) : CI (d + 1) 171 [vR 11 (some 0), vI (nI (63 * k + 9 * pl))] h K := fun P hP => v171 hP 0 _ h (u171 (t := 0) hP S Q hpl kk 5 rfl)
/-- a field of one tincture has no second -/
def FdV (sh : Nat → Int32) : Prop := sh 2 = -1 ↔ sh 0 = 0
theorem s191 {d k pl : Nat} {sh : Nat → Int32} {h : Hp} {K : Int32 → Hp → Prop} (S : RSh h) (Q : RsK h k sh) (V : FdV sh) (hpl : pl < 7) (kk : K (blS sh pl) h) : CI (d + 2) 191 [vR 11 (some 0), vI (nI k), vI (nI pl)] h K := by
  intro P hP
  have hk := Q.1
  have ik : ix (nI k) = k := nI_clamp (by omega)
  unfold blS at kk
  have on : ∀ q, q < 7 → nI pl - 1 = nI q → K (sortS (sh (3 + 9 * q + 1))) h → CI (d + 1) 124 [vI (nI k), vI (nI pl - 1)] h (fun x2 h1 => dr (jR h 11 0 15) (fun a3 => vp_in (x2 + 1) (jLen h1 21 a3) ∧ (CI (d + 1) 190 [vI (jI h1 21 a3 (ix (x2 + 1)))] h1 (fun x5 h4 => (fun v h' => ∃ x, v = some (vI x) ∧ K x h') (some (vI x5)) h4)))) := by
    intro q hq e k2
    rw [e]
    refine s124 ?_
    have e1 : nI (63 * k + 9 * q) + 1 = nI (63 * k + (9 * q + 1)) := spot_i k q 1
    have ic : ix (nI (63 * k + (9 * q + 1))) = 63 * k + (9 * q + 1) := nI_clamp (by omega)
    rw [spot_e, e1, ic]
    refine dr_of S.r15 ⟨vp3843 (by omega) hq (by omega) S.n15, s190 ⟨_, rfl, ?_⟩⟩
    rw [Q.p hq (by omega)]
    exact k2
  refine v191 hP 0 (nI k) (nI pl) h ⟨fun c => ?_, fun c => ⟨fun c4 => ?_, fun c4 => ?_⟩⟩
  · have c : pl = 1 := (nI_eq (a := pl) (b := 1) (by omega) (by decide)).mp c
    subst c
    exact on 0 (by decide) (by decide) kk
  · have c : ¬ pl = 1 := fun z => c (by rw [z]; rfl)
    have c4 : ¬ pl = 4 := fun z => c4 (by rw [z]; rfl)
    rw [if_neg c, if_neg c4] at kk
    unfold fsS at kk
    refine dr_of S.r13 ⟨vp61 (by omega) S.n13, s190 (dr_of S.r14 ⟨vp61 (by omega) S.n14, ?_⟩)⟩
    rw [ik, Q.2.2.1, Q.2.2.2.1]
    refine ⟨fun z => ⟨_, rfl, ?_⟩, fun z => dr_of S.r14 ⟨vp61 (by omega) S.n14, s190 ?_⟩⟩
    · rw [if_pos (V.mp z)] at kk; exact kk
    · rw [if_neg (fun y => z (V.mpr y))] at kk
      rw [Q.2.2.2.1]
      refine ⟨fun y => ⟨_, rfl, ?_⟩, fun y => ⟨_, rfl, ?_⟩⟩
      · rw [if_neg (fun w => y w.symm)] at kk; exact kk
      · rw [if_pos (Classical.not_not.mp y).symm] at kk; exact kk
  · have c4 : pl = 4 := (nI_eq (a := pl) (b := 4) (by omega) (by decide)).mp (Classical.not_not.mp c4)
    subst c4
    exact on 3 (by decide) (by decide) kk
/-- operand(what, k, place) -/
theorem s189 {d k pl w : Nat} {sh : Nat → Int32} {h : Hp} {K : Int32 → Hp → Prop} (S : RSh h) (Q : RsK h k sh) (V : FdV sh) (hpl : pl < 7) (hw : w < 8) (kk : K (vlS sh pl w) h) : CI (d + 3) 189 [vR 11 (some 0), vI (nI (w + 2)), vI (nI k), vI (nI pl)] h K := by
  intro P hP
  have hk := Q.1
  refine v189 hP 0 (nI (w + 2)) (nI k) (nI pl) h (s124 ?_)
  have e1 : nI (63 * k + 9 * pl) + 1 = nI (63 * k + (9 * pl + 1)) := spot_i k pl 1
  have e2 : nI (63 * k + 9 * pl) + 2 = nI (63 * k + (9 * pl + 2)) := spot_i k pl 2
  have e3 : nI (63 * k + 9 * pl) + 3 = nI (63 * k + (9 * pl + 3)) := spot_i k pl 3
  have i0 : ix (nI (63 * k + 9 * pl)) = 63 * k + (9 * pl + 0) := nI_clamp (by omega)
  have i1 : ix (nI (63 * k + (9 * pl + 1))) = 63 * k + (9 * pl + 1) := nI_clamp (by omega)
  have i2 : ix (nI (63 * k + (9 * pl + 2))) = 63 * k + (9 * pl + 2) := nI_clamp (by omega)
  have i3 : ix (nI (63 * k + (9 * pl + 3))) = 63 * k + (9 * pl + 3) := nI_clamp (by omega)
  rw [spot_e, e1, e2, e3, i0, i1, i2, i3]
  have vp : ∀ i, i < 9 → vp_in (nI (63 * k + (9 * pl + i))) (jLen h 21 3) := fun i hi => vp3843 (by omega) hpl hi S.n15
  have hc : w = 0 ∨ w = 1 ∨ w = 2 ∨ w = 3 ∨ w = 4 ∨ w = 5 ∨ w = 6 ∨ w = 7 := by omega
  rcases hc with rfl | rfl | rfl | rfl | rfl | rfl | rfl | rfl
  · exact ⟨fun _ => dr_of S.r15 ⟨vp 1 (by omega), s190 ⟨_, rfl, by rw [Q.p hpl (by omega)]; exact kk⟩⟩, fun z => absurd rfl z⟩
  · exact ⟨fun z => absurd z (by decide), fun _ => ⟨fun _ => s191 S Q V hpl ⟨_, rfl, kk⟩, fun z => absurd rfl z⟩⟩
  · exact ⟨fun z => absurd z (by decide), fun _ => ⟨fun z => absurd z (by decide), fun _ => ⟨fun _ => dr_of S.r15 ⟨vp 1 (by omega), _, rfl, by rw [Q.p hpl (by omega)]; exact kk⟩, fun z => absurd rfl z⟩⟩⟩
  · exact ⟨fun z => absurd z (by decide), fun _ => ⟨fun z => absurd z (by decide), fun _ => ⟨fun z => absurd z (by decide), fun _ => ⟨fun _ => dr_of S.r15 ⟨vp 2 (by omega), _, rfl, by rw [Q.p hpl (by omega)]; exact kk⟩, fun z => absurd rfl z⟩⟩⟩⟩
  · exact ⟨fun z => absurd z (by decide), fun _ => ⟨fun z => absurd z (by decide), fun _ => ⟨fun z => absurd z (by decide), fun _ => ⟨fun z => absurd z (by decide), fun _ => ⟨fun _ => dr_of S.r15 ⟨vp 3 (by omega), _, rfl, by rw [Q.p hpl (by omega)]; exact kk⟩, fun z => absurd rfl z⟩⟩⟩⟩⟩
  · exact ⟨fun z => absurd z (by decide), fun _ => ⟨fun z => absurd z (by decide), fun _ => ⟨fun z => absurd z (by decide), fun _ => ⟨fun z => absurd z (by decide), fun _ => ⟨fun z => absurd z (by decide), fun _ => ⟨fun _ => s171 S Q hpl ⟨_, rfl, kk⟩, fun z => absurd rfl z⟩⟩⟩⟩⟩⟩
  · exact ⟨fun z => absurd z (by decide), fun _ => ⟨fun z => absurd z (by decide), fun _ => ⟨fun z => absurd z (by decide), fun _ => ⟨fun z => absurd z (by decide), fun _ => ⟨fun z => absurd z (by decide), fun _ => ⟨fun z => absurd z (by decide), fun _ => ⟨fun _ => dr_of S.r15 ⟨vp 0 (by omega), _, rfl, by rw [Q.p hpl (by omega)]; exact kk⟩, fun z => absurd rfl z⟩⟩⟩⟩⟩⟩⟩
  · exact ⟨fun z => absurd z (by decide), fun _ => ⟨fun z => absurd z (by decide), fun _ => ⟨fun z => absurd z (by decide), fun _ => ⟨fun z => absurd z (by decide), fun _ => ⟨fun z => absurd z (by decide), fun _ => ⟨fun z => absurd z (by decide), fun _ => ⟨fun z => absurd z (by decide), fun _ => ⟨_, rfl, kk⟩⟩⟩⟩⟩⟩⟩⟩
/-- joined(what, a, b) -/
theorem s192 {d s : Nat} {a b : Int32} {h : Hp} {K : Int32 → Hp → Prop} (hs : s < 6) (k : K (cmb s a b) h) : CI (d + 1) 192 [vI (chC s), vI a, vI b] h K := by
  intro P hP
  have hc : s = 0 ∨ s = 1 ∨ s = 2 ∨ s = 3 ∨ s = 4 ∨ s = 5 := by omega
  rcases hc with rfl | rfl | rfl | rfl | rfl | rfl
  · exact v192 hP 43 a b h ⟨fun z => absurd z (by decide), fun _ => ⟨fun _ => ⟨_, rfl, k⟩, fun z => absurd rfl z⟩⟩
  · exact v192 hP 45 a b h ⟨fun z => absurd z (by decide), fun _ => ⟨fun z => absurd z (by decide), fun _ => ⟨fun _ => ⟨_, rfl, k⟩, fun z => absurd rfl z⟩⟩⟩
  · exact v192 hP 42 a b h ⟨fun _ => ⟨_, rfl, k⟩, fun z => absurd rfl z⟩
  · have k : K (if a = b then 1 else 0) h := k
    refine v192 hP 61 a b h ⟨fun z => absurd z (by decide), fun _ => ⟨fun z => absurd z (by decide), fun _ => ⟨fun z => absurd z (by decide), fun _ => ⟨fun z => absurd z (by decide), fun _ => ⟨fun _ => ⟨fun c => ⟨_, rfl, ?_⟩, fun c => ⟨_, rfl, ?_⟩⟩, fun z => absurd rfl z⟩⟩⟩⟩⟩
    · rw [if_neg c] at k; exact k
    · rw [if_pos (Classical.not_not.mp c)] at k; exact k
  · have k : K (if b ≤ a then 0 else 1) h := k
    refine v192 hP 60 a b h ⟨fun z => absurd z (by decide), fun _ => ⟨fun z => absurd z (by decide), fun _ => ⟨fun z => absurd z (by decide), fun _ => ⟨fun _ => ⟨fun c => ⟨_, rfl, ?_⟩, fun c => ⟨_, rfl, ?_⟩⟩, fun z => absurd rfl z⟩⟩⟩⟩
    · rw [if_pos c] at k; exact k
    · rw [if_neg c] at k; exact k
  · have k : K (if a ≤ b then 0 else 1) h := k
    refine v192 hP 62 a b h ⟨fun z => absurd z (by decide), fun _ => ⟨fun z => absurd z (by decide), fun _ => ⟨fun z => absurd z (by decide), fun _ => ⟨fun z => absurd z (by decide), fun _ => ⟨fun z => absurd z (by decide), fun _ => ⟨fun c => ⟨_, rfl, ?_⟩, fun c => ⟨_, rfl, ?_⟩⟩⟩⟩⟩⟩⟩
    · rw [if_pos c] at k; exact k
    · rw [if_neg c] at k; exact k
/-- pushes(v) -/
theorem s188 {d t : Nat} {v : Int32} {h : Hp} {K : Hp → Prop} (S : RSh h) (e : jI h 11 0 34 = nI t) (ht : t < 2200) (k : K (wI (wI h 21 13 t v) 11 0 34 (nI (t + 1)))) : CV (d + 1) 188 [vR 11 (some 0), vI v] h K := by
  intro P hP
  refine v188 hP 0 v h (dr_of S.r33 ?_)
  rw [e, show ix (nI t) = t from nI_clamp (by omega), jI_t (by decide), e, nI_1]
  exact ⟨by rw [S.n33]; exact vp_in_nI ht (by decide), rfl, k⟩
/-- the first seat from s on, over m, that has a body -/
def nxS (sf : Nat → Option Bod) : Nat → Nat → Option (Nat × Bod)
  | _, 0 => none
  | s, m + 1 => match sf s with
    | none => nxS sf (s + 1) m
    | some b => some (s, b)
