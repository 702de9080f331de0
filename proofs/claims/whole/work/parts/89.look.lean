/-! look, on both sides -/
def fdN (r : Nat → Int32) : Nat → Nat → Int32
  | 0, _ => -1
  | m + 1, t => if r (4 + t) = -1 then fdN r m (t + 1) else r (4 + t)
def ldN (r : Nat → Int32) : Nat → Int32
  | 0 => -1
  | t + 1 => if r (4 + t) = -1 then ldN r t else r (4 + t)
theorem d27 {d pt da pl : Nat} {r : Nat → Int32} {h : Hp} {K : Int32 → Hp → Prop} {P : Nat → List AV → List AV → Hp → Prop} (hP : Cl (Call d) 27 (fun v h' => ∃ x, v = some (vI x) ∧ K x h') P) (Q : PtOK h pt da pl r) : ∀ mm t, t + mm = 5 → K (fdN r mm t) h → P 2 [vR 3 (some pt), vI (nI t)] [] h
  | 0, t, ht, k => by
    have e : t = 5 := by omega
    subst e
    exact v27_2 hP pt (nI 5) h ⟨fun _ => ⟨_, rfl, k⟩, fun c => absurd (by decide) c⟩
  | mm + 1, t, ht, k => by
    obtain ⟨q0, q1, q2, q3, q4, q5, q6, q7⟩ := id Q
    have it : ix (nI t) = t := nI_clamp (by omega)
    unfold fdN at k
    refine v27_2 hP pt (nI t) h ⟨fun c => absurd c (nI_ge (b := 5) (by omega) (by omega)), fun _ => dr_of q5 ⟨by rw [q6]; exact vp_in_nI (by omega) (by decide), fun c => ?_, fun c => dr_of q5 ⟨by rw [q6]; exact vp_in_nI (by omega) (by decide), _, rfl, ?_⟩⟩⟩
    · rw [it, q7 t (by omega)] at c
      rw [if_pos c] at k
      rw [nI_1]
      exact d27 hP Q mm (t + 1) (by omega) k
    · rw [it, q7 t (by omega)] at c
      rw [if_neg c] at k
      rw [it, q7 t (by omega)]
      exact k
theorem s27 {d pt da pl : Nat} {r : Nat → Int32} {h : Hp} {K : Int32 → Hp → Prop} (Q : PtOK h pt da pl r) (k : K (fdN r 5 0) h) : CI (d + 1) 27 [vR 3 (some pt)] h K := fun P hP => v27 hP pt h (d27 hP Q 5 0 rfl k)
theorem d28 {d pt da pl : Nat} {r : Nat → Int32} {h : Hp} {K : Int32 → Hp → Prop} {P : Nat → List AV → List AV → Hp → Prop} (hP : Cl (Call d) 28 (fun v h' => ∃ x, v = some (vI x) ∧ K x h') P) (Q : PtOK h pt da pl r) : ∀ t, t ≤ 5 → K (ldN r t) h → P 2 [vR 3 (some pt), vI (nI t + (-1))] [] h
  | 0, ht, k => v28_2 hP pt (nI 0 + (-1)) h ⟨fun _ => ⟨_, rfl, k⟩, fun c => absurd (by decide) c⟩
  | t + 1, ht, k => by
    obtain ⟨q0, q1, q2, q3, q4, q5, q6, q7⟩ := id Q
    have it : ix (nI t) = t := nI_clamp (by omega)
    unfold ldN at k
    rw [pk_m1 t]
    refine v28_2 hP pt (nI t) h ⟨fun c => absurd c (nI_pos (by omega)), fun _ => dr_of q5 ⟨by rw [q6]; exact vp_in_nI (by omega) (by decide), fun c => ?_, fun c => dr_of q5 ⟨by rw [q6]; exact vp_in_nI (by omega) (by decide), _, rfl, ?_⟩⟩⟩
    · rw [it, q7 t (by omega)] at c
      rw [if_pos c] at k
      exact d28 hP Q t (by omega) k
    · rw [it, q7 t (by omega)] at c
      rw [if_neg c] at k
      rw [it, q7 t (by omega)]
      exact k
theorem s28 {d pt da pl : Nat} {r : Nat → Int32} {h : Hp} {K : Int32 → Hp → Prop} (Q : PtOK h pt da pl r) (k : K (ldN r 5) h) : CI (d + 1) 28 [vR 3 (some pt)] h K := fun P hP => v28 hP pt h (d28 hP Q 5 (by decide) k)
/-- what is told of a part at place pl -/
def dtS (pl : Nat) (r : Nat → Int32) (w : Int32) : Int32 := if w = 0 then r 0 else if w = 1 then r 1 else if w = 2 then r 2 else if w = 3 then r 3 else if w = 4 then nI pl else if w = 5 then nI (dcN r 5) else if w = 6 then fdN r 5 0 else ldN r 5
def in8 (w : Int32) : Prop := w = 0 ∨ w = 1 ∨ w = 2 ∨ w = 3 ∨ w = 4 ∨ w = 5 ∨ w = 6 ∨ w = 7
theorem s25 {d pt da pl : Nat} {r : Nat → Int32} {w : Int32} {h : Hp} {K : Int32 → Hp → Prop} (Q : PtOK h pt da pl r) (h8 : in8 w) (k : K (dtS pl r w) h) : CI (d + 2) 25 [vR 3 (some pt), vI w] h K := by
  intro P hP
  obtain ⟨q0, q1, q2, q3, q4, q5, q6, q7⟩ := id Q
  unfold dtS at k
  refine v25 hP pt w h ⟨fun c => ⟨_, rfl, ?_⟩, fun c0 => ⟨fun c => ⟨_, rfl, ?_⟩, fun c1 => ⟨fun c => ⟨_, rfl, ?_⟩, fun c2 => ⟨fun c => ⟨_, rfl, ?_⟩, fun c3 => ⟨fun c => ⟨_, rfl, ?_⟩, fun c4 => ⟨fun c => s26 Q ⟨_, rfl, ?_⟩, fun c5 => ⟨fun c => s27 Q ⟨_, rfl, ?_⟩, fun c6 => ⟨fun c => s28 Q ⟨_, rfl, ?_⟩, fun c7 => ?_⟩⟩⟩⟩⟩⟩⟩⟩
  · rw [if_pos c] at k; rw [q1]; exact k
  · rw [if_neg c0, if_pos c] at k; rw [q4]; exact k
  · rw [if_neg c0, if_neg c1, if_pos c] at k; rw [q2]; exact k
  · rw [if_neg c0, if_neg c1, if_neg c2, if_pos c] at k; rw [q3]; exact k
  · rw [if_neg c0, if_neg c1, if_neg c2, if_neg c3, if_pos c] at k; rw [q0]; exact k
  · rw [if_neg c0, if_neg c1, if_neg c2, if_neg c3, if_neg c4, if_pos c] at k; exact k
  · rw [if_neg c0, if_neg c1, if_neg c2, if_neg c3, if_neg c4, if_neg c5, if_pos c] at k; exact k
  · rw [if_neg c0, if_neg c1, if_neg c2, if_neg c3, if_neg c4, if_neg c5, if_neg c6] at k; exact k
  · rcases h8 with z | z | z | z | z | z | z | z
    · exact absurd z c0
    · exact absurd z c1
    · exact absurd z c2
    · exact absurd z c3
    · exact absurd z c4
    · exact absurd z c5
    · exact absurd z c6
    · exact absurd z c7
/-- how many parts stand at the first places -/
def pcN (sh : Nat → Int32) : Nat → Nat
  | 0 => 0
  | m + 1 => pcN sh m + (if sh (3 + 9 * m) = 0 then 0 else 1)
theorem ShOK.no {h : Hp} {s pa pl : Nat} {sh : Nat → Int32} (Q : ShOK h s pa sh) (hpl : pl < 7) : jR h 33 pa pl = none ↔ sh (3 + 9 * pl) = 0 := by
  rcases Q.2.2.2.2.2.2.2 pl hpl with z | ⟨pt, da, z1, z2, z3, z4, z5⟩
  · exact ⟨fun _ => z.2 0 (by decide), fun _ => z.1⟩
  · rw [z1]
    exact ⟨(fun w => by cases w), fun w => absurd w z4.n0⟩
theorem d58 {d s pa : Nat} {sh : Nat → Int32} {h : Hp} {K : Int32 → Hp → Prop} {P : Nat → List AV → List AV → Hp → Prop} (hP : Cl (Call d) 58 (fun v h' => ∃ x, v = some (vI x) ∧ K x h') P) (Q : ShOK h s pa sh) (k : K (nI (pcN sh 7)) h) : ∀ mm t, t + mm = 7 → P 4 [vR 7 (some s), vI (nI (pcN sh t)), vI (nI t)] [] h
  | 0, t, ht => by
    have e : t = 7 := by omega
    subst e
    exact v58_4 hP s _ (nI 7) h ⟨fun _ => ⟨_, rfl, k⟩, fun c => absurd (by decide) c⟩
  | mm + 1, t, ht => by
    have it : ix (nI t) = t := nI_clamp (by omega)
    have ih := d58 hP Q k mm (t + 1) (by omega)
    unfold pcN at ih
    refine v58_4 hP s _ (nI t) h ⟨fun c => absurd c (nI_ge (b := 7) (by omega) (by omega)), fun _ => dr_of Q.2.2.2.2.2.1 ⟨by rw [Q.2.2.2.2.2.2.1]; exact vp_in_nI (by omega) (by decide), fun c => ?_, fun c => ?_⟩⟩
    · rw [it, Q.no (by omega)] at c
      rw [if_pos c] at ih
      rw [nI_1]
      exact ih
    · rw [it, Q.no (by omega)] at c
      rw [if_neg c] at ih
      rw [nI_1, nI_1]
      exact ih
theorem s58 {d s pa : Nat} {sh : Nat → Int32} {h : Hp} {K : Int32 → Hp → Prop} (Q : ShOK h s pa sh) (k : K (nI (pcN sh 7)) h) : CI (d + 1) 58 [vR 7 (some s)] h K := fun P hP => v58 hP s h (d58 (t := 0) hP Q k 7 rfl)
/-- the place of the p-th part, behind n parts, from place pl on -/
def plN (sh : Nat → Int32) (p : Int32) : Nat → Nat → Int32 → Option Nat
  | 0, _, _ => none
  | m + 1, pl, n => if sh (3 + 9 * pl) = 0 then plN sh p m (pl + 1) n else if n = p then some pl else plN sh p m (pl + 1) (n + 1)
theorem plN_v {sh : Nat → Int32} {p : Int32} : ∀ {m pl q : Nat} {n : Int32}, plN sh p m pl n = some q → q < pl + m ∧ ¬ sh (3 + 9 * q) = 0
  | 0, pl, q, n, e => by cases e
  | m + 1, pl, q, n, e => by
    unfold plN at e
    split at e
    · have := plN_v e
      exact ⟨by omega, this.2⟩
    · split at e
      · have e2 := Option.some.inj e
        subst e2
        exact ⟨by omega, by assumption⟩
      · have := plN_v e
        exact ⟨by omega, this.2⟩
theorem d59 {d s pa : Nat} {sh : Nat → Int32} {p : Int32} {h : Hp} {K : Option Nat → Hp → Prop} {P : Nat → List AV → List AV → Hp → Prop} (hP : Cl (Call d) 59 (fun v h' => ∃ x, v = some (vR 3 x) ∧ K x h') P) (Q : ShOK h s pa sh) : ∀ mm t n, t + mm = 7 → (plN sh p mm t n = none → K none h) → (∀ q, plN sh p mm t n = some q → K (jR h 33 pa q) h) → P 4 [vR 7 (some s), vI p, vI n, vI (nI t)] [] h
  | 0, t, n, ht, k0, k1 => by
    have e : t = 7 := by omega
    subst e
    exact v59_4 hP s p n (nI 7) h ⟨fun _ => ⟨_, rfl, k0 rfl⟩, fun c => absurd (by decide) c⟩
  | mm + 1, t, n, ht, k0, k1 => by
    have it : ix (nI t) = t := nI_clamp (by omega)
    unfold plN at k0 k1
    refine v59_4 hP s p n (nI t) h ⟨fun c => absurd c (nI_ge (b := 7) (by omega) (by omega)), fun _ => dr_of Q.2.2.2.2.2.1 ⟨by rw [Q.2.2.2.2.2.2.1]; exact vp_in_nI (by omega) (by decide), fun c => ?_, fun c => ⟨fun c2 => ?_, fun c2 => dr_of Q.2.2.2.2.2.1 ⟨by rw [Q.2.2.2.2.2.2.1]; exact vp_in_nI (by omega) (by decide), _, rfl, ?_⟩⟩⟩⟩
    · rw [it, Q.no (by omega)] at c
      rw [if_pos c] at k0 k1
      rw [nI_1]
      exact d59 hP Q mm (t + 1) n (by omega) k0 k1
    · rw [it, Q.no (by omega)] at c
      rw [if_neg c, if_neg c2] at k0 k1
      rw [nI_1]
      exact d59 hP Q mm (t + 1) (n + 1) (by omega) k0 k1
    · rw [it, Q.no (by omega)] at c
      rw [if_neg c, if_pos (Classical.not_not.mp c2)] at k1
      rw [it]
      exact k1 t rfl
theorem s59 {d s pa : Nat} {sh : Nat → Int32} {p : Int32} {h : Hp} {K : Option Nat → Hp → Prop} (Q : ShOK h s pa sh) (k0 : plN sh p 7 0 0 = none → K none h) (k1 : ∀ q, plN sh p 7 0 0 = some q → K (jR h 33 pa q) h) : CR (d + 1) 59 3 [vR 7 (some s), vI p] h K := fun P hP => v59 hP s p h (d59 hP Q 7 0 0 rfl k0 k1)
theorem s57 {d s pa : Nat} {sh : Nat → Int32} {w : Int32} {h : Hp} {K : Int32 → Hp → Prop} (Q : ShOK h s pa sh) (k : K (if w = 0 then sh 0 else if w = 1 then sh 1 else if w = 2 then sh 2 else if w = 3 then nI (pcN sh 7) else -1) h) : CI (d + 2) 57 [vR 7 (some s), vI w] h K := by
  intro P hP
  obtain ⟨q1, q2, q3, q4, q5, q6, q7, q8⟩ := id Q
  refine v57 hP s w h ⟨fun c => ⟨_, rfl, ?_⟩, fun c0 => ⟨fun c => ⟨_, rfl, ?_⟩, fun c1 => ⟨fun c => ⟨_, rfl, ?_⟩, fun c2 => ⟨fun c => s58 Q ⟨_, rfl, ?_⟩, fun c3 => ⟨_, rfl, ?_⟩⟩⟩⟩⟩
  · rw [if_pos c] at k; rw [q3]; exact k
  · rw [if_neg c0, if_pos c] at k; rw [q4]; exact k
  · rw [if_neg c0, if_neg c1, if_pos c] at k; rw [q5]; exact k
  · rw [if_neg c0, if_neg c1, if_neg c2, if_pos c] at k; exact k
  · rw [if_neg c0, if_neg c1, if_neg c2, if_neg c3] at k; exact k
/-- look -/
def lkS (sh : Nat → Int32) (w : Int32) : Int32 := if 10 ≤ w then (match plN sh ((w - 10) / 8) 7 0 0 with
    | none => -1
    | some q => dtS q (fun i => sh (3 + 9 * q + i)) ((w - 10) - (w - 10) / 8 * 8)) else if w = 0 then sh 0 else if w = 1 then sh 1 else if w = 2 then sh 2 else if w = 3 then nI (pcN sh 7) else -1
/-! the reference -/
theorem v4t (k pl t : Nat) : nI (63 * k + 9 * pl) + 4 + nI t = nI (63 * k + (9 * pl + (4 + t))) := by
  show nI (63 * k + 9 * pl) + nI 4 + nI t = _
  rw [nI_add, nI_add]; congr 1; omega
theorem u172a {d k pl : Nat} {sh : Nat → Int32} {h : Hp} {K : Int32 → Hp → Prop} {P : Nat → List AV → List AV → Hp → Prop} (hP : Cl (Call d) 172 (fun v h' => ∃ x, v = some (vI x) ∧ K x h') P) (S : RSh h) (Q : RsK h k sh) (hpl : pl < 7) : ∀ mm t (l3 : Int32) (w5 : AV), t + mm = 5 → K (if l3 = -1 then fdN (fun i => sh (3 + 9 * pl + i)) mm t else l3) h → P 5 [vR 11 (some 0), vI (nI (63 * k + 9 * pl)), vI 0, vI l3, vI (nI t), w5] [] h
  | 0, t, l3, w5, ht, kk => by
    have e : t = 5 := by omega
    subst e
    refine v172_5 hP 0 _ 0 l3 (nI 5) w5 h ⟨fun _ => ⟨_, rfl, ?_⟩, fun c => absurd (by decide) c⟩
    by_cases z : l3 = -1
    · rw [if_pos z] at kk; rw [z]; exact kk
    · rw [if_neg z] at kk; exact kk
  | mm + 1, t, l3, w5, ht, kk => by
    have hk := Q.1
    have ic : ix (nI (63 * k + (9 * pl + (4 + t)))) = 63 * k + (9 * pl + (4 + t)) := nI_clamp (by omega)
    have ec : ∀ {x y : Int32}, sh (3 + 9 * pl + (4 + t)) = x → (if l3 = -1 then fdN (fun i => sh (3 + 9 * pl + i)) (mm + 1) t else l3) = (if l3 = -1 then (if x = -1 then fdN (fun i => sh (3 + 9 * pl + i)) mm (t + 1) else x) else l3) := fun e => by rw [← e]; rfl
    refine v172_5 hP 0 _ 0 l3 (nI t) w5 h ⟨fun c => absurd c (nI_ge (b := 5) (by omega) (by omega)), fun _ => ?_⟩
    rw [v4t, ic, nI_1]
    refine dr_of S.r15 ⟨vp3843 (by omega) hpl (by omega) S.n15, ?_⟩
    rw [Q.p hpl (by omega)]
    generalize hx : sh (3 + 9 * pl + (4 + t)) = x
    rw [ec (y := 0) hx] at kk
    refine ⟨fun c => u172a hP S Q hpl mm (t + 1) l3 _ (by omega) ?_, fun c => ⟨fun z => absurd rfl z, fun _ => ⟨fun c2 => u172a hP S Q hpl mm (t + 1) l3 _ (by omega) ?_, fun c2 => u172a hP S Q hpl mm (t + 1) x _ (by omega) ?_⟩⟩⟩
    · rw [if_pos c] at kk; exact kk
    · rw [if_neg c2] at kk ⊢; exact kk
    · rw [if_pos (Classical.not_not.mp c2), if_neg c] at kk
      rw [if_neg c]; exact kk
theorem u172b {d k pl : Nat} {sh : Nat → Int32} {h : Hp} {K : Int32 → Hp → Prop} {P : Nat → List AV → List AV → Hp → Prop} (hP : Cl (Call d) 172 (fun v h' => ∃ x, v = some (vI x) ∧ K x h') P) (S : RSh h) (Q : RsK h k sh) (hpl : pl < 7) (kk : K (ldN (fun i => sh (3 + 9 * pl + i)) 5) h) : ∀ mm t (w5 : AV), t + mm = 5 → P 5 [vR 11 (some 0), vI (nI (63 * k + 9 * pl)), vI 1, vI (ldN (fun i => sh (3 + 9 * pl + i)) t), vI (nI t), w5] [] h
  | 0, t, w5, ht => by
    have e : t = 5 := by omega
    subst e
    exact v172_5 hP 0 _ 1 _ (nI 5) w5 h ⟨fun _ => ⟨_, rfl, kk⟩, fun c => absurd (by decide) c⟩
  | mm + 1, t, w5, ht => by
    have hk := Q.1
    have ic : ix (nI (63 * k + (9 * pl + (4 + t)))) = 63 * k + (9 * pl + (4 + t)) := nI_clamp (by omega)
    have ih := fun w => u172b hP S Q hpl kk mm (t + 1) w (by omega)
    unfold ldN at ih
    refine v172_5 hP 0 _ 1 _ (nI t) w5 h ⟨fun c => absurd c (nI_ge (b := 5) (by omega) (by omega)), fun _ => ?_⟩
    rw [v4t, ic, nI_1]
    refine dr_of S.r15 ⟨vp3843 (by omega) hpl (by omega) S.n15, ?_⟩
    rw [Q.p hpl (by omega)]
    refine ⟨fun c => ?_, fun c => ⟨fun _ => ?_, fun z => absurd (by decide) z⟩⟩
    · have ih := ih (vI (sh (3 + 9 * pl + (4 + t))))
      rw [if_pos c] at ih; exact ih
    · have ih := ih (vI (sh (3 + 9 * pl + (4 + t))))
      rw [if_neg c] at ih; exact ih
theorem s172a {d k pl : Nat} {sh : Nat → Int32} {h : Hp} {K : Int32 → Hp → Prop} (S : RSh h) (Q : RsK h k sh) (hpl : pl < 7) (kk : K (fdN (fun i => sh (3 + 9 * pl + i)) 5 0) h) : CI (d + 1) 172 [vR 11 (some 0), vI (nI (63 * k + 9 * pl)), vI 0] h K := fun P hP => v172 hP 0 _ 0 h (u172a hP S Q hpl 5 0 (-1) un rfl (by rw [if_pos rfl]; exact kk))
theorem s172b {d k pl : Nat} {sh : Nat → Int32} {h : Hp} {K : Int32 → Hp → Prop} (S : RSh h) (Q : RsK h k sh) (hpl : pl < 7) (kk : K (ldN (fun i => sh (3 + 9 * pl + i)) 5) h) : CI (d + 1) 172 [vR 11 (some 0), vI (nI (63 * k + 9 * pl)), vI 1] h K := fun P hP => v172 hP 0 _ 1 h (u172b hP S Q hpl kk 5 0 un rfl)
theorem u169 {d k : Nat} {sh : Nat → Int32} {h : Hp} {K : Int32 → Hp → Prop} {P : Nat → List AV → List AV → Hp → Prop} (hP : Cl (Call (d + 1)) 169 (fun v h' => ∃ x, v = some (vI x) ∧ K x h') P) (S : RSh h) (Q : RsK h k sh) (kk : K (nI (pcN sh 7)) h) : ∀ mm t, t + mm = 7 → P 4 [vR 11 (some 0), vI (nI k), vI (nI (pcN sh t)), vI (nI t)] [] h
  | 0, t, ht => by
    have e : t = 7 := by omega
    subst e
    exact v169_4 hP 0 _ _ (nI 7) h ⟨fun _ => ⟨_, rfl, kk⟩, fun c => absurd (by decide) c⟩
  | mm + 1, t, ht => by
    have hk := Q.1
    have ic : ix (nI (63 * k + 9 * t)) = 63 * k + (9 * t + 0) := nI_clamp (by omega)
    have ih := u169 hP S Q kk mm (t + 1) (by omega)
    unfold pcN at ih
    refine v169_4 hP 0 _ _ (nI t) h ⟨fun c => absurd c (nI_ge (b := 7) (by omega) (by omega)), fun _ => s124 ?_⟩
    rw [spot_e, ic, nI_1]
    refine dr_of S.r15 ⟨vp3843 (i := 0) (by omega) (by omega) (by omega) S.n15, ?_⟩
    rw [Q.p (by omega) (by omega)]
    refine ⟨fun c => ?_, fun c => ?_⟩
    · rw [if_pos (show sh (3 + 9 * t) = 0 from c)] at ih
      rw [Int32.add_zero]; exact ih
    · rw [if_neg (show ¬ sh (3 + 9 * t) = 0 from c)] at ih
      rw [nI_1]; exact ih
theorem s169 {d k : Nat} {sh : Nat → Int32} {h : Hp} {K : Int32 → Hp → Prop} (S : RSh h) (Q : RsK h k sh) (kk : K (nI (pcN sh 7)) h) : CI (d + 2) 169 [vR 11 (some 0), vI (nI k)] h K := fun P hP => v169 hP 0 _ h (u169 (t := 0) hP S Q kk 7 rfl)
theorem u170 {d k : Nat} {sh : Nat → Int32} {p : Int32} {h : Hp} {K : Int32 → Hp → Prop} {P : Nat → List AV → List AV → Hp → Prop} (hP : Cl (Call (d + 1)) 170 (fun v h' => ∃ x, v = some (vI x) ∧ K x h') P) (S : RSh h) (Q : RsK h k sh) : ∀ mm t n, t + mm = 7 → (plN sh p mm t n = none → K (-1) h) → (∀ q, plN sh p mm t n = some q → K (nI q) h) → P 5 [vR 11 (some 0), vI (nI k), vI p, vI n, vI (nI t)] [] h
  | 0, t, n, ht, k0, k1 => by
    have e : t = 7 := by omega
    subst e
    exact v170_5 hP 0 _ p n (nI 7) h ⟨fun _ => ⟨_, rfl, k0 rfl⟩, fun c => absurd (by decide) c⟩
  | mm + 1, t, n, ht, k0, k1 => by
    have hk := Q.1
    have ic : ix (nI (63 * k + 9 * t)) = 63 * k + (9 * t + 0) := nI_clamp (by omega)
    unfold plN at k0 k1
    refine v170_5 hP 0 _ p n (nI t) h ⟨fun c => absurd c (nI_ge (b := 7) (by omega) (by omega)), fun _ => s124 ?_⟩
    rw [spot_e, ic, nI_1]
    refine dr_of S.r15 ⟨vp3843 (i := 0) (by omega) (by omega) (by omega) S.n15, ?_⟩
    rw [Q.p (by omega) (by omega)]
    refine ⟨fun c => ⟨fun c2 => ?_, fun c2 => ⟨_, rfl, ?_⟩⟩, fun c => ?_⟩
    · rw [if_neg (show ¬ sh (3 + 9 * t) = 0 from c), if_neg c2] at k0 k1
      exact u170 hP S Q mm (t + 1) (n + 1) (by omega) k0 k1
    · rw [if_neg (show ¬ sh (3 + 9 * t) = 0 from c), if_pos (Classical.not_not.mp c2)] at k1
      exact k1 t rfl
    · rw [if_pos (show sh (3 + 9 * t) = 0 from Classical.not_not.mp c)] at k0 k1
      exact u170 hP S Q mm (t + 1) n (by omega) k0 k1
theorem s170 {d k : Nat} {sh : Nat → Int32} {p : Int32} {h : Hp} {K : Int32 → Hp → Prop} (S : RSh h) (Q : RsK h k sh) (k0 : plN sh p 7 0 0 = none → K (-1) h) (k1 : ∀ q, plN sh p 7 0 0 = some q → K (nI q) h) : CI (d + 2) 170 [vR 11 (some 0), vI (nI k), vI p] h K := fun P hP => v170 hP 0 _ p h (u170 hP S Q 7 0 0 rfl k0 k1)
