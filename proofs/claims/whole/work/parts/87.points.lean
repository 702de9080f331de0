/-! point, points, on both sides -/
/-- the reference's point(k, x, y) -/
theorem s195 {d k n : Nat} {sh : Nat → Int32} {x y : Int32} {h : Hp} {K : Int32 → Hp → Prop} (S : RSh h) (en : jI h 11 0 11 = nI n) (hn : n ≤ 60) (hkn : k < n) (Q : RsK h k sh) (V : ShV sh) (kk : K (ptS sh x y) h) : CI (d + 5) 195 [vR 11 (some 0), vI (nI k), vI x, vI y] h K := by
  intro P hP
  unfold ptS at kk
  refine v195 hP 0 (nI k) x y h (s159 en hn (fun z => absurd rfl (z k hkn)) (fun j hj ej => ⟨fun z => absurd z (by decide), fun _ => s196 ⟨fun c => ?_, fun c => ⟨_, rfl, ?_⟩⟩⟩))
  · rw [if_pos (bo1.mp c)] at kk
    exact c195 hP S Q V 7 6 un un (by decide) rfl kk
  · have c := bo0.mp (Classical.not_not.mp c)
    rw [if_neg (by rw [c]; decide)] at kk
    exact kk
theorem s195n {d n : Nat} {l1 x y : Int32} {h : Hp} {K : Int32 → Hp → Prop} (en : jI h 11 0 11 = nI n) (hn : n ≤ 60) (hno : ∀ j, j < n → ¬ l1 = nI j) (kk : K (-1) h) : CI (d + 2) 195 [vR 11 (some 0), vI l1, vI x, vI y] h K := fun P hP => v195 hP 0 l1 x y h (s159 en hn (fun _ => ⟨fun _ => ⟨_, rfl, kk⟩, fun z => absurd rfl z⟩) (fun j hj ej => absurd ej (hno j hj)))
def cX (sh : Nat → Int32) (t y : Nat) : Nat → Nat
  | 0 => 0
  | x + 1 => cX sh t y x + (if ptS sh (nI x) (nI y) = nI t then 1 else 0)
/-- how many points have tincture t, in the first y rows -/
def cY (sh : Nat → Int32) (t : Nat) : Nat → Nat
  | 0 => 0
  | y + 1 => cY sh t y + cX sh t y 60
theorem c35 {d k n t : Nat} {sh : Nat → Int32} {h : Hp} {K : Int32 → Hp → Prop} {P : Nat → List AV → List AV → Hp → Prop} (hP : Cl (Call (d + 5)) 204 (fun v h' => ∃ x, v = some (vI x) ∧ K x h') P) (S : RSh h) (en : jI h 11 0 11 = nI n) (hn : n ≤ 60) (hkn : k < n) (Q : RsK h k sh) (V : ShV sh) (y : Nat) (go : P 25 [vR 11 (some 0), vI (nI k), vI (nI t), vI (nI (cY sh t (y + 1))), vI (nI y + 1), vI 60] [] h) : ∀ q x, x + q = 60 → P 35 [vR 11 (some 0), vI (nI k), vI (nI t), vI (nI (cY sh t y + cX sh t y x)), vI (nI y), vI (nI x)] [] h
  | 0, x, hq => by
    have e : x = 60 := by omega
    subst e
    exact v204_35 hP 0 _ _ _ _ (nI 60) h ⟨fun _ => go, fun c => absurd (by decide) c⟩
  | q + 1, x, hq => by
    have ih := c35 hP S en hn hkn Q V y go q (x + 1) (by omega)
    unfold cX at ih
    refine v204_35 hP 0 _ _ _ _ (nI x) h ⟨fun c => absurd c (nI_ge (b := 60) (by omega) (by omega)), fun _ => s195 S en hn hkn Q V ⟨fun c => ?_, fun c => ?_⟩⟩
    · rw [if_neg c, Nat.add_zero] at ih
      rw [nI_1, Int32.add_zero]
      exact ih
    · rw [if_pos (Classical.not_not.mp c)] at ih
      rw [nI_1, nI_1, Nat.add_assoc]
      exact ih
theorem c25 {d k n t : Nat} {sh : Nat → Int32} {h : Hp} {K : Int32 → Hp → Prop} {P : Nat → List AV → List AV → Hp → Prop} (hP : Cl (Call (d + 5)) 204 (fun v h' => ∃ x, v = some (vI x) ∧ K x h') P) (S : RSh h) (en : jI h 11 0 11 = nI n) (hn : n ≤ 60) (hkn : k < n) (Q : RsK h k sh) (V : ShV sh) (kk : K (nI (cY sh t 72)) h) : ∀ (q y : Nat) (w5 : AV), y + q = 72 → P 25 [vR 11 (some 0), vI (nI k), vI (nI t), vI (nI (cY sh t y)), vI (nI y), w5] [] h
  | 0, y, w5, hq => by
    have e : y = 72 := by omega
    subst e
    exact v204_25 hP 0 _ _ _ (nI 72) w5 h ⟨fun _ => ⟨_, rfl, kk⟩, fun c => absurd (by decide) c⟩
  | q + 1, y, w5, hq => by
    have ih := c25 hP S en hn hkn Q V kk q (y + 1) (vI 60) (by omega)
    rw [← nI_1] at ih
    exact v204_25 hP 0 _ _ _ (nI y) w5 h ⟨fun c => absurd c (nI_ge (b := 72) (by omega) (by omega)), fun _ => c35 (x := 0) hP S en hn hkn Q V y ih 60 rfl⟩
/-- the reference's points(k, t) -/
theorem s204 {d k n t : Nat} {sh : Nat → Int32} {h : Hp} {K : Int32 → Hp → Prop} (S : RSh h) (en : jI h 11 0 11 = nI n) (hn : n ≤ 60) (hkn : k < n) (Q : RsK h k sh) (V : ShV sh) (ht : t < 9) (kk : K (nI (cY sh t 72)) h) : CI (d + 6) 204 [vR 11 (some 0), vI (nI k), vI (nI t)] h K := by
  intro P hP
  exact v204 hP 0 (nI k) (nI t) h (s159 en hn (fun z => absurd rfl (z k hkn)) (fun j hj ej => ⟨fun z => absurd z (by decide), fun _ => ⟨fun c => absurd c (nI_pos (by omega)), fun _ => ⟨fun _ => c25 (y := 0) hP S en hn hkn Q V kk 72 un rfl, fun c => absurd (nI_le (b := 8) (by omega) (by omega)) c⟩⟩⟩))
theorem s204n {d n : Nat} {l1 l2 : Int32} {h : Hp} {K : Int32 → Hp → Prop} (en : jI h 11 0 11 = nI n) (hn : n ≤ 60) (hno : (∀ j, j < n → ¬ l1 = nI j) ∨ (l2 < 0 ∨ ¬ l2 ≤ 8)) (kk : K (-1) h) : CI (d + 2) 204 [vR 11 (some 0), vI l1, vI l2] h K := by
  intro P hP
  refine v204 hP 0 l1 l2 h (s159 en hn (fun _ => ⟨fun _ => ⟨_, rfl, kk⟩, fun z => absurd rfl z⟩) (fun j hj ej => ⟨fun z => absurd z (by decide), fun _ => ⟨fun _ => ⟨_, rfl, kk⟩, fun c => ⟨fun c2 => ?_, fun _ => ⟨_, rfl, kk⟩⟩⟩⟩))
  rcases hno with z | z | z
  · exact absurd ej (z j hj)
  · exact absurd z c
  · exact absurd c2 z
/-! the class -/
theorem s56 {d s pa j : Nat} {sh : Nat → Int32} {h : Hp} {K : Option Nat → Hp → Prop} (Q : ShOK h s pa sh) (hj : j < 7) (k : K (jR h 33 pa j) h) : CR (d + 1) 56 3 [vR 7 (some s), vI (nI j)] h K := by
  intro P hP
  refine v56 hP s (nI j) h ⟨fun c => absurd c (nI_pos (by omega)), fun _ => ⟨fun c => absurd c (nI_ge (b := 7) (by omega) (by omega)), fun _ => dr_of Q.2.2.2.2.2.1 ⟨by rw [Q.2.2.2.2.2.2.1]; exact vp_in_nI hj (by decide), _, rfl, ?_⟩⟩⟩
  rw [show ix (nI j) = j from nI_clamp (by omega)]
  exact k
theorem c213 {d s pa : Nat} {sh : Nat → Int32} {x y : Int32} {h : Hp} {K : Int32 → Hp → Prop} {P : Nat → List AV → List AV → Hp → Prop} (hP : Cl (Call (d + 5)) 213 (fun v h' => ∃ x, v = some (vI x) ∧ K x h') P) (Q : ShOK h s pa sh) (V : ShV sh) : ∀ (j : Nat) (l3 : Int32) (w4 : AV), j ≤ 7 → l3 = (if j = 0 then -1 else nI (j - 1)) → K (ptL sh x y j) h → P 13 [vR 7 (some s), vI x, vI y, vI l3, w4] [] h
  | 0, l3, w4, hj, e3, kk => by
    obtain ⟨⟨p, hp, ep⟩, -⟩ := V
    have ip : ix (sh 0) = p := by rw [ep]; exact nI_clamp (by omega)
    unfold ptL at kk
    rw [ip] at kk
    rw [e3]
    refine v213_13 hP (some s) x y _ w4 h ⟨fun _ => dr_of rfl ?_, fun c => absurd (by decide) c⟩
    rw [Q.2.2.1, ep]
    refine s224 hp ⟨fun c => dr_of rfl ⟨_, rfl, ?_⟩, fun c => dr_of rfl ⟨_, rfl, ?_⟩⟩
    · rw [if_neg (by rw [bo0.mp c]; decide)] at kk
      rw [Q.2.2.2.1]; exact kk
    · rw [if_pos (bo1.mp c)] at kk
      rw [Q.2.2.2.2.1]; exact kk
  | j + 1, l3, w4, hj, e3, kk => by
    have e3 : l3 = nI j := by rw [e3, if_neg (by omega)]; rfl
    have em1 : nI j + (-1) = (if j = 0 then -1 else nI (j - 1)) := by
      by_cases z : j = 0
      · rw [z]; decide
      · rw [if_neg z]
        obtain ⟨t, rfl⟩ : ∃ t, j = t + 1 := ⟨j - 1, by omega⟩
        exact pk_m1 t
    rw [e3]
    unfold ptL at kk
    refine v213_13 hP (some s) x y _ w4 h ⟨fun c => absurd c (nI_pos (by omega)), fun _ => dr_of rfl (s56 Q (by omega) ?_)⟩
    rcases Q.2.2.2.2.2.2.2 j (by omega) with z | ⟨pt, da, z1, z2, z3, z4, z5⟩
    · rw [z.1]
      have cz : sh (3 + 9 * j) = 0 := z.2 0 (by decide)
      rw [if_neg (fun w => w.1 cz)] at kk
      exact ⟨fun _ => c213 hP Q V j _ _ (by omega) em1 kk, fun w => absurd rfl w⟩
    · rw [z1]
      have cz : ¬ sh (3 + 9 * j) = 0 := z4.n0
      obtain ⟨kn, m, ek, em, ik, im, h1, h6, hkd⟩ := z4.kn
      rw [ik, im] at kk
      refine ⟨(fun w => by cases w), fun _ => s215 z5 em ek h1 h6 (by omega) (by omega) ⟨fun c => ?_, fun c => dr_of rfl ⟨_, rfl, ?_⟩⟩⟩
      · rw [if_neg (fun w => by rw [bo0.mp c] at w; exact absurd w.2 (by decide))] at kk
        exact c213 hP Q V j _ _ (by omega) em1 kk
      · rw [if_pos ⟨cz, bo1.mp c⟩] at kk
        rw [z5.2.2.2.2.1]; exact kk
/-- tinctureAt(shield, x, y) -/
theorem s213 {d s pa : Nat} {sh : Nat → Int32} {x y : Int32} {h : Hp} {K : Int32 → Hp → Prop} (Q : ShOK h s pa sh) (V : ShV sh) (kk : K (ptS sh x y) h) : CI (d + 6) 213 [vR 7 (some s), vI x, vI y] h K := by
  intro P hP
  unfold ptS at kk
  refine v213 hP (some s) x y h (s214 ⟨fun c => ?_, fun c => ⟨_, rfl, ?_⟩⟩)
  · rw [if_pos (bo1.mp c)] at kk
    exact c213 hP Q V 7 6 un (by decide) rfl kk
  · have c := bo0.mp (Classical.not_not.mp c)
    rw [if_neg (by rw [c]; decide)] at kk
    exact kk
/-- tinctures of the field -/
def FtV (sh : Nat → Int32) : Prop := DuV (sh 1) ∧ DuV (sh 2)
theorem ptL_v {sh : Nat → Int32} {x y : Int32} (V : ShV sh) (F : FtV sh) : ∀ j, j ≤ 7 → DuV (ptL sh x y j)
  | 0, _ => by
    unfold ptL
    split
    · exact F.2
    · exact F.1
  | j + 1, hj => by
    unfold ptL
    split
    · rename_i z
      rcases V.2 j (by omega) with w | w
      · exact absurd (w 0 (by decide)) z.1
      · obtain ⟨k, t, m, q, h0, h1, h2, h3, h4, -⟩ := w
        exact Or.inr ⟨t, h4, h1⟩
    · exact ptL_v V F j (by omega)
theorem ptS_v {sh : Nat → Int32} {x y : Int32} (V : ShV sh) (F : FtV sh) : DuV (ptS sh x y) := by
  unfold ptS
  split
  · exact ptL_v V F 7 (by decide)
  · exact Or.inl rfl
