/-! differences of two shields, on both sides -/
def eqN (f g : Nat → Int32) : Nat → Bool
  | 0 => true
  | m + 1 => eqN f g m && decide (f m = g m)
theorem eqN_iff {f g : Nat → Int32} : ∀ {m : Nat}, eqN f g m = true ↔ ∀ i, i < m → f i = g i
  | 0 => ⟨fun _ i hi => absurd hi (by omega), fun _ => rfl⟩
  | m + 1 => by
    show (eqN f g m && decide (f m = g m)) = true ↔ _
    rw [Bool.and_eq_true, decide_eq_true_eq, eqN_iff]
    refine ⟨fun z i hi => ?_, fun z => ⟨fun i hi => z i (by omega), z m (by omega)⟩⟩
    by_cases e : i = m
    · rw [e]; exact z.2
    · exact z.1 i (by omega)
theorem dr_e (a : Nat) (K : Nat → Prop) : dr (some a) K = K a := rfl
def plE (sh sh' : Nat → Int32) (pl : Nat) : Bool := eqN (fun i => sh (3 + 9 * pl + i)) (fun i => sh' (3 + 9 * pl + i)) 9
def dfN (sh sh' : Nat → Int32) : Nat → Nat
  | 0 => 0
  | m + 1 => dfN sh sh' m + (if plE sh sh' m = true then 0 else 1)
def fdE (sh sh' : Nat → Int32) : Bool := eqN sh sh' 3
/-- differences -/
def dfS (sh sh' : Nat → Int32) : Nat := (if fdE sh sh' = true then 0 else 1) + dfN sh sh' 7
theorem dfN_le (sh sh' : Nat → Int32) : ∀ m, dfN sh sh' m ≤ m
  | 0 => Nat.le_refl _
  | m + 1 => by
    have := dfN_le sh sh' m
    unfold dfN
    split <;> omega
theorem d24 {d pt da pl pt' da' pl' : Nat} {r r' : Nat → Int32} {h : Hp} {K : Int32 → Hp → Prop} {P : Nat → List AV → List AV → Hp → Prop} (hP : Cl (Call d) 24 (fun v h' => ∃ x, v = some (vI x) ∧ K x h') P) (Q : PtOK h pt da pl r) (Q' : PtOK h pt' da' pl' r') : ∀ mm t, t + mm = 5 → ((∀ i, t ≤ i → i < 5 → r (4 + i) = r' (4 + i)) → K 1 h) → ((∃ i, i < 5 ∧ ¬ r (4 + i) = r' (4 + i)) → K 0 h) → P 48 [vR 3 (some pt), vR 3 (some pt'), vI (nI t)] [] h
  | 0, t, ht, k1, k0 => by
    have e : t = 5 := by omega
    subst e
    exact v24_48 hP pt (some pt') (nI 5) h ⟨fun _ => ⟨_, rfl, k1 (fun i h1 h2 => absurd h1 (by omega))⟩, fun c => absurd (by decide) c⟩
  | mm + 1, t, ht, k1, k0 => by
    obtain ⟨q0, q1, q2, q3, q4, q5, q6, q7⟩ := id Q
    obtain ⟨p0, p1, p2, p3, p4, p5, p6, p7⟩ := id Q'
    have it : ix (nI t) = t := nI_clamp (by omega)
    refine v24_48 hP pt (some pt') (nI t) h ⟨fun c => absurd c (nI_ge (b := 5) (by omega) (by omega)), fun _ => dr_of q5 ⟨by rw [q6]; exact vp_in_nI (by omega) (by decide), dr_of rfl (dr_of p5 ⟨by rw [p6]; exact vp_in_nI (by omega) (by decide), ?_⟩)⟩⟩
    rw [it, q7 t (by omega), p7 t (by omega), nI_1]
    refine ⟨fun c => d24 hP Q Q' mm (t + 1) (by omega) (fun z => k1 (fun i h1 h2 => ?_)) k0, fun c => ⟨_, rfl, k0 ⟨t, by omega, c⟩⟩⟩
    by_cases e : i = t
    · rw [e]; exact c
    · exact z i (by omega) h2
theorem s24 {d pt da pl pt' da' pl' : Nat} {r r' : Nat → Int32} {h : Hp} {K : Int32 → Hp → Prop} (Q : PtOK h pt da pl r) (Q' : PtOK h pt' da' pl' r') (k : K (bi (eqN r r' 9)) h) : CI (d + 1) 24 [vR 3 (some pt), vR 3 (some pt')] h K := by
  intro P hP
  obtain ⟨q0, q1, q2, q3, q4, q5, q6, q7⟩ := id Q
  obtain ⟨p0, p1, p2, p3, p4, p5, p6, p7⟩ := id Q'
  have no : ∀ i, i < 9 → ¬ r i = r' i → K 0 h := by
    intro i hi hn
    have : eqN r r' 9 = false := by
      cases e : eqN r r' 9 with
      | false => rfl
      | true => exact absurd (eqN_iff.mp e i hi) hn
    rw [this] at k; exact k
  refine v24 hP pt (some pt') h (dr_of rfl ?_)
  simp only [dr_e]
  rw [q1, q2, q3, q4, p1, p2, p3, p4]
  refine ⟨fun c => ⟨_, rfl, no 0 (by decide) c⟩, fun c0 => ⟨fun c => ⟨_, rfl, no 1 (by decide) c⟩, fun c1 => ⟨fun c => ⟨_, rfl, no 2 (by decide) c⟩, fun c2 => ⟨fun c3 => ?_, fun c => ⟨_, rfl, no 3 (by decide) c⟩⟩⟩⟩⟩
  refine d24 (t := 0) hP Q Q' 5 rfl (fun z => ?_) (fun z => ?_)
  · have : eqN r r' 9 = true := by
      refine eqN_iff.mpr (fun i hi => ?_)
      have hc : i = 0 ∨ i = 1 ∨ i = 2 ∨ i = 3 ∨ 4 ≤ i := by omega
      rcases hc with e | e | e | e | e
      · rw [e]; exact Classical.not_not.mp c0
      · rw [e]; exact Classical.not_not.mp c1
      · rw [e]; exact Classical.not_not.mp c2
      · rw [e]; exact c3
      · have := z (i - 4) (by omega) (by omega)
        rw [show 4 + (i - 4) = i by omega] at this
        exact this
    rw [this] at k; exact k
  · obtain ⟨i, hi, hn⟩ := z
    exact no (4 + i) (by omega) hn
theorem nar01 (b : Bool) : narrow .boolean (.int (bi b)) = .int (bi b) := by cases b <;> rfl
theorem s55 {d s pa s' pa' pl : Nat} {sh sh' : Nat → Int32} {h : Hp} {K : Int32 → Hp → Prop} (Q : ShOK h s pa sh) (Q' : ShOK h s' pa' sh') (hpl : pl < 7) (k : K (bi (plE sh sh' pl)) h) : CI (d + 2) 55 [vR 3 (jR h 33 pa pl), vR 3 (jR h 33 pa' pl)] h K := by
  intro P hP
  unfold plE at k
  have no : ¬ sh (3 + 9 * pl) = sh' (3 + 9 * pl) → K 0 h := by
    intro hn
    have : eqN (fun i => sh (3 + 9 * pl + i)) (fun i => sh' (3 + 9 * pl + i)) 9 = false := by
      cases e : eqN (fun i => sh (3 + 9 * pl + i)) (fun i => sh' (3 + 9 * pl + i)) 9 with
      | false => rfl
      | true => exact absurd (eqN_iff.mp e 0 (by decide)) hn
    rw [this] at k; exact k
  rcases Q.2.2.2.2.2.2.2 pl hpl with z | ⟨pt, da, z1, z2, z3, z4, z5⟩
  · have h0 : sh (3 + 9 * pl) = 0 := z.2 0 (by decide)
    rw [z.1]
    rcases Q'.2.2.2.2.2.2.2 pl hpl with y | ⟨pt', da', y1, y2, y3, y4, y5⟩
    · rw [y.1]
      refine v55 hP none none h ⟨fun _ => ⟨fun c => absurd rfl c, fun _ => ⟨_, rfl, ?_⟩⟩, fun c => absurd rfl c⟩
      rw [eqN_iff.mpr (fun i hi => by rw [z.2 i hi, y.2 i hi])] at k
      exact k
    · rw [y1]
      refine v55 hP none (some pt') h ⟨fun _ => ⟨fun _ => ⟨_, rfl, no (fun e => ?_)⟩, fun c => absurd (fun e => by cases e) c⟩, fun c => absurd rfl c⟩
      rw [h0] at e
      exact y4.n0 e.symm
  · rw [z1]
    rcases Q'.2.2.2.2.2.2.2 pl hpl with y | ⟨pt', da', y1, y2, y3, y4, y5⟩
    · have h0 : sh' (3 + 9 * pl) = 0 := y.2 0 (by decide)
      rw [y.1]
      refine v55 hP (some pt) none h ⟨(fun c => by cases c), fun _ => ⟨fun c => absurd rfl c, fun _ => ⟨fun _ => ⟨_, rfl, no (fun e => ?_)⟩, fun c => absurd (fun e => by cases e) c⟩⟩⟩
      rw [h0] at e
      exact z4.n0 e
    · rw [y1]
      exact v55 hP (some pt) (some pt') h ⟨(fun c => by cases c), fun _ => ⟨fun _ => dr_of rfl (s24 z5 y5 ⟨nar01 _, _, rfl, k⟩), fun c => absurd (fun e => by cases e) c⟩⟩
theorem d54 {d s pa s' pa' f : Nat} {l2 : Int32} {sh sh' : Nat → Int32} {h : Hp} {K : Int32 → Hp → Prop} {P : Nat → List AV → List AV → Hp → Prop} (hP : Cl (Call (d + 2)) 54 (fun v h' => ∃ x, v = some (vI x) ∧ K x h') P) (Q : ShOK h s pa sh) (Q' : ShOK h s' pa' sh') (kk : K (nI (f + dfN sh sh' 7)) h) : ∀ mm t, t + mm = 7 → P 52 [vR 7 (some s), vR 7 (some s'), vI l2, vI (nI (f + dfN sh sh' t)), vI (nI t)] [] h
  | 0, t, ht => by
    have e : t = 7 := by omega
    subst e
    exact v54_52 hP s (some s') l2 _ (nI 7) h ⟨fun _ => ⟨_, rfl, kk⟩, fun c => absurd (by decide) c⟩
  | mm + 1, t, ht => by
    have it : ix (nI t) = t := nI_clamp (by omega)
    have ih := d54 (l2 := l2) hP Q Q' kk mm (t + 1) (by omega)
    unfold dfN at ih
    refine v54_52 hP s (some s') l2 _ (nI t) h ⟨fun c => absurd c (nI_ge (b := 7) (by omega) (by omega)), fun _ => dr_of Q.2.2.2.2.2.1 ⟨by rw [Q.2.2.2.2.2.2.1]; exact vp_in_nI (by omega) (by decide), dr_of rfl (dr_of Q'.2.2.2.2.2.1 ⟨by rw [Q'.2.2.2.2.2.2.1]; exact vp_in_nI (by omega) (by decide), ?_⟩)⟩⟩
    rw [it, nI_1]
    refine s55 Q Q' (by omega) ⟨fun c => ?_, fun c => ?_⟩
    · rw [if_pos (bo1.mp c)] at ih
      exact ih
    · rw [if_neg (by rw [bo0.mp (Classical.not_not.mp c)]; decide)] at ih
      rw [nI_1]; exact ih
/-- the class's differences -/
theorem s54 {d s pa s' pa' : Nat} {sh sh' : Nat → Int32} {h : Hp} {K : Int32 → Hp → Prop} (Q : ShOK h s pa sh) (Q' : ShOK h s' pa' sh') (k : K (nI (dfS sh sh')) h) : CI (d + 3) 54 [vR 7 (some s), vR 7 (some s')] h K := by
  intro P hP
  unfold dfS at k
  have no : ∀ i, i < 3 → ¬ sh i = sh' i → P 52 [vR 7 (some s), vR 7 (some s'), vI 0, vI 1, vI 0] [] h := by
    intro i hi hn
    have e : ¬ fdE sh sh' = true := fun e => hn (eqN_iff.mp e i hi)
    rw [if_neg e] at k
    exact d54 (t := 0) hP Q Q' k 7 rfl
  refine v54 hP s (some s') h (dr_of rfl ?_)
  simp only [dr_e]
  rw [Q.2.2.1, Q'.2.2.1, Q.2.2.2.1, Q'.2.2.2.1, Q.2.2.2.2.1, Q'.2.2.2.2.1]
  refine ⟨fun c => no 0 (by decide) c, fun c0 => ⟨fun c => no 1 (by decide) c, fun c1 => ⟨fun c => no 2 (by decide) c, fun c2 => ?_⟩⟩⟩
  have e : fdE sh sh' = true := eqN_iff.mpr (fun i hi => by
    have hc : i = 0 ∨ i = 1 ∨ i = 2 := by omega
    rcases hc with e | e | e
    · rw [e]; exact Classical.not_not.mp c0
    · rw [e]; exact Classical.not_not.mp c1
    · rw [e]; exact Classical.not_not.mp c2)
  rw [if_pos e] at k
  exact d54 (t := 0) hP Q Q' k 7 rfl
/-! the reference -/
def RcK (h : Hp) (k : Nat) (sh : Nat → Int32) : Prop := k ≤ 60 ∧ jI h 21 0 k = sh 0 ∧ jI h 21 1 k = sh 1 ∧ jI h 21 2 k = sh 2 ∧ ∀ i, i < 63 → jI h 21 3 (63 * k + i) = sh (3 + i)
theorem RsK.c {h : Hp} {k : Nat} {sh : Nat → Int32} (Q : RsK h k sh) : RcK h k sh := ⟨Nat.le_of_lt Q.1, Q.2⟩
theorem RcK.p {h : Hp} {k : Nat} {sh : Nat → Int32} (Q : RcK h k sh) {pl i : Nat} (hpl : pl < 7) (hi : i < 9) : jI h 21 3 (63 * k + (9 * pl + i)) = sh (3 + 9 * pl + i) := by
  rw [Q.2.2.2.2 (9 * pl + i) (by omega), show 3 + (9 * pl + i) = 3 + 9 * pl + i by omega]
theorem s156 {d k q : Nat} {sh sh' : Nat → Int32} {h : Hp} {K : Int32 → Hp → Prop} (S : RSh h) (Q : RcK h k sh) (Q' : RcK h q sh') (kk : K (bi (fdE sh sh')) h) : CI (d + 1) 156 [vR 11 (some 0), vI (nI k), vI (nI q)] h K := by
  intro P hP
  have hk := Q.1
  have hq := Q'.1
  have ik : ix (nI k) = k := nI_clamp (by omega)
  have iq : ix (nI q) = q := nI_clamp (by omega)
  have no : ∀ i, i < 3 → ¬ sh i = sh' i → K 0 h := by
    intro i hi hn
    have : fdE sh sh' = false := by
      cases e : fdE sh sh' with
      | false => rfl
      | true => exact absurd (eqN_iff.mp e i hi) hn
    rw [this] at kk; exact kk
  refine v156 hP 0 (nI k) (nI q) h ?_
  rw [ik, iq]
  refine dr_of S.r12 ⟨vp61 hk S.n12, dr_of S.r12 ⟨vp61 hq S.n12, ?_⟩⟩
  rw [Q.2.1, Q'.2.1]
  refine ⟨fun c => ⟨_, rfl, no 0 (by decide) c⟩, fun c0 => dr_of S.r13 ⟨vp61 hk S.n13, dr_of S.r13 ⟨vp61 hq S.n13, ?_⟩⟩⟩
  rw [Q.2.2.1, Q'.2.2.1]
  refine ⟨fun c => ⟨_, rfl, no 1 (by decide) c⟩, fun c1 => dr_of S.r14 ⟨vp61 hk S.n14, dr_of S.r14 ⟨vp61 hq S.n14, ?_⟩⟩⟩
  rw [Q.2.2.2.1, Q'.2.2.2.1]
  refine ⟨fun c => ⟨_, rfl, no 2 (by decide) c⟩, fun c2 => ⟨_, rfl, ?_⟩⟩
  have e : fdE sh sh' = true := eqN_iff.mpr (fun i hi => by
    have hc : i = 0 ∨ i = 1 ∨ i = 2 := by omega
    rcases hc with e | e | e
    · rw [e]; exact Classical.not_not.mp c0
    · rw [e]; exact Classical.not_not.mp c1
    · rw [e]; exact Classical.not_not.mp c2)
  rw [e] at kk; exact kk
theorem d157 {d k q pl : Nat} {l3 : Int32} {sh sh' : Nat → Int32} {h : Hp} {K : Int32 → Hp → Prop} {P : Nat → List AV → List AV → Hp → Prop} (hP : Cl (Call (d + 1)) 157 (fun v h' => ∃ x, v = some (vI x) ∧ K x h') P) (S : RSh h) (Q : RcK h k sh) (Q' : RcK h q sh') (hpl : pl < 7) (go : ∀ w5 w6, P 5 [vR 11 (some 0), vI (nI k), vI (nI q), vI (l3 + (if plE sh sh' pl = true then 0 else 1)), vI (nI pl + 1), w5, w6] [] h) : ∀ mm t, t + mm = 9 → P 18 [vR 11 (some 0), vI (nI k), vI (nI q), vI l3, vI (nI pl), vI (bi (eqN (fun i => sh (3 + 9 * pl + i)) (fun i => sh' (3 + 9 * pl + i)) t)), vI (nI t)] [] h
  | 0, t, ht => by
    have e : t = 9 := by omega
    subst e
    refine v157_18 hP 0 _ _ l3 _ _ (nI 9) h ⟨fun _ => ⟨fun c => ?_, fun c => ?_⟩, fun c => absurd (by decide) c⟩
    · have go := go (vI (bi (eqN (fun i => sh (3 + 9 * pl + i)) (fun i => sh' (3 + 9 * pl + i)) 9))) (vI (nI 9))
      rw [if_neg (show ¬ plE sh sh' pl = true from by rw [show plE sh sh' pl = false from bo0.mp c]; decide)] at go
      exact go
    · have go := go (vI (bi (eqN (fun i => sh (3 + 9 * pl + i)) (fun i => sh' (3 + 9 * pl + i)) 9))) (vI (nI 9))
      rw [if_pos (show plE sh sh' pl = true from bo1.mp c)] at go
      exact go
  | mm + 1, t, ht => by
    have hk := Q.1
    have hq := Q'.1
    have ih := d157 hP S Q Q' hpl go mm (t + 1) (by omega)
    unfold eqN at ih
    have ik : ix (nI (63 * k + 9 * pl) + nI t) = 63 * k + (9 * pl + t) := by rw [spot_i]; exact nI_clamp (by omega)
    have iq : ix (nI (63 * q + 9 * pl) + nI t) = 63 * q + (9 * pl + t) := by rw [spot_i]; exact nI_clamp (by omega)
    refine v157_18 hP 0 _ _ l3 _ _ (nI t) h ⟨fun c => absurd c (nI_ge (b := 9) (by omega) (by omega)), fun _ => ⟨fun c => ?_, fun c => s124 ?_⟩⟩
    · rw [bo0.mp c, Bool.false_and, ← nI_1] at ih
      exact ih
    · rw [spot_e, ik]
      refine dr_of S.r15 ⟨by rw [spot_i]; exact vp3843 hk hpl (by omega) S.n15, s124 ?_⟩
      rw [spot_e, iq]
      refine dr_of S.r15 ⟨by rw [spot_i]; exact vp3843 hq hpl (by omega) S.n15, ?_⟩
      rw [Q.p hpl (by omega), Q'.p hpl (by omega)]
      rw [bo1.mp c, Bool.true_and, ← nI_1] at ih
      refine ⟨fun c2 => ?_, fun c2 => ?_⟩
      · rw [decide_eq_false c2] at ih; exact ih
      · rw [decide_eq_true (Classical.not_not.mp c2)] at ih; exact ih
theorem c157 {d k q : Nat} {sh sh' : Nat → Int32} {h : Hp} {K : Int32 → Hp → Prop} {P : Nat → List AV → List AV → Hp → Prop} (hP : Cl (Call (d + 1)) 157 (fun v h' => ∃ x, v = some (vI x) ∧ K x h') P) (S : RSh h) (Q : RcK h k sh) (Q' : RcK h q sh') (kk : K (nI (dfN sh sh' 7)) h) : ∀ mm t w5 w6, t + mm = 7 → P 5 [vR 11 (some 0), vI (nI k), vI (nI q), vI (nI (dfN sh sh' t)), vI (nI t), w5, w6] [] h
  | 0, t, w5, w6, ht => by
    have e : t = 7 := by omega
    subst e
    exact v157_5 hP 0 _ _ _ (nI 7) w5 w6 h ⟨fun _ => ⟨_, rfl, kk⟩, fun c => absurd (by decide) c⟩
  | mm + 1, t, w5, w6, ht => by
    have ih := fun w5 w6 => c157 hP S Q Q' kk mm (t + 1) w5 w6 (by omega)
    unfold dfN at ih
    refine v157_5 hP 0 _ _ _ (nI t) w5 w6 h ⟨fun c => absurd c (nI_ge (b := 7) (by omega) (by omega)), fun _ => d157 (t := 0) hP S Q Q' (by omega) (fun w5 w6 => ?_) 9 rfl⟩
    have ih := ih w5 w6
    rw [← nI_1, ← nI_add] at ih
    by_cases c : plE sh sh' t = true
    · rw [if_pos c] at ih ⊢; exact ih
    · rw [if_neg c] at ih ⊢; exact ih
theorem s157 {d k q : Nat} {sh sh' : Nat → Int32} {h : Hp} {K : Int32 → Hp → Prop} (S : RSh h) (Q : RcK h k sh) (Q' : RcK h q sh') (kk : K (nI (dfN sh sh' 7)) h) : CI (d + 2) 157 [vR 11 (some 0), vI (nI k), vI (nI q)] h K := fun P hP => v157 hP 0 _ _ h (c157 (t := 0) hP S Q Q' kk 7 un un rfl)
theorem dfS0 {sh sh' : Nat → Int32} : dfS sh sh' = 0 ↔ fdE sh sh' = true ∧ dfN sh sh' 7 = 0 := by
  unfold dfS
  split
  · rename_i z
    rw [Nat.zero_add]; exact ⟨fun w => ⟨z, w⟩, fun w => w.2⟩
  · rename_i z
    exact ⟨fun w => absurd w (by omega), fun w => absurd w.1 z⟩
theorem s155 {d k q : Nat} {sh sh' : Nat → Int32} {h : Hp} {K : Int32 → Hp → Prop} (S : RSh h) (Q : RcK h k sh) (Q' : RcK h q sh') (k1 : dfS sh sh' = 0 → K 1 h) (k0 : ¬ dfS sh sh' = 0 → K 0 h) : CI (d + 3) 155 [vR 11 (some 0), vI (nI k), vI (nI q)] h K := by
  intro P hP
  have hle := dfN_le sh sh' 7
  rw [dfS0] at k1 k0
  refine v155 hP 0 (nI k) (nI q) h (s156 S Q Q' ⟨fun c => ⟨_, rfl, k0 (fun w => ?_)⟩, fun c => s157 S Q Q' ⟨fun c2 => ⟨_, rfl, k0 (fun w => ?_)⟩, fun c2 => ⟨_, rfl, k1 ⟨bo1.mp c, ?_⟩⟩⟩⟩)
  · rw [bo0.mp c] at w; exact absurd w.1 (by decide)
  · rw [w.2] at c2; exact c2 rfl
  · have c2 := Classical.not_not.mp c2
    exact (nI_eq (b := 0) (by omega) (by decide)).mp c2
/-- the reference's differ -/
theorem s173 {d k q n : Nat} {sh sh' : Nat → Int32} {h : Hp} {K : Int32 → Hp → Prop} (S : RSh h) (en : jI h 11 0 11 = nI n) (hn : n ≤ 60) (hkn : k < n) (hqn : q < n) (Q : RsK h k sh) (Q' : RsK h q sh') (kk : K (nI (dfS sh sh')) h) : CI (d + 3) 173 [vR 11 (some 0), vI (nI k), vI (nI q)] h K := by
  intro P hP
  unfold dfS at kk
  refine v173 hP 0 (nI k) (nI q) h (s159 en hn (fun z => absurd rfl (z k hkn)) (fun _ _ _ => ⟨fun z => absurd z (by decide), fun _ => s159 en hn (fun z => absurd rfl (z q hqn)) (fun _ _ _ => ⟨fun _ => s157 S Q.c Q'.c (s156 S Q.c Q'.c ⟨fun c => ⟨_, rfl, ?_⟩, fun c => ⟨_, rfl, ?_⟩⟩), fun z => absurd (by decide) z⟩)⟩))
  · rw [if_neg (by rw [bo0.mp c]; decide), Nat.add_comm] at kk
    rw [nI_1]; exact kk
  · rw [if_pos (bo1.mp c), Nat.zero_add] at kk
    rw [Int32.add_zero]; exact kk
theorem s173n {d n : Nat} {l1 l2 : Int32} {h : Hp} {K : Int32 → Hp → Prop} (en : jI h 11 0 11 = nI n) (hn : n ≤ 60) (hno : (∀ j, j < n → ¬ l1 = nI j) ∨ (∀ j, j < n → ¬ l2 = nI j)) (kk : K (-1) h) : CI (d + 2) 173 [vR 11 (some 0), vI l1, vI l2] h K := fun P hP => v173 hP 0 l1 l2 h (s159 en hn (fun _ => ⟨fun _ => ⟨_, rfl, kk⟩, fun z => absurd rfl z⟩) (fun j hj ej => ⟨fun _ => ⟨_, rfl, kk⟩, fun _ => s159 en hn (fun _ => ⟨fun z => absurd rfl z, fun _ => ⟨_, rfl, kk⟩⟩) (fun j2 hj2 ej2 => by
  rcases hno with z | z
  · exact absurd ej (z j hj)
  · exact absurd ej2 (z j2 hj2))⟩))
