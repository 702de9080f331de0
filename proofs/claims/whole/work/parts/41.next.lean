/-! the reference's tokens -/
def RtX (h : Hp) (o a n : Nat) (tx : Nat → Int32) : Prop := n ≤ 240 ∧ jI h 11 o 3 = nI n ∧ jR h 11 o 2 = some a ∧ jLen h 22 a = 241 ∧ ∀ j, j < n → jI h 22 a j &&& 255 = tx j
theorem RtX.wI {h : Hp} {o a n : Nat} {tx : Nat → Int32} (T : RtX h o a n tx) {k : Nat} {v : Int32} (hk : 3 ≠ k) : RtX (_root_.Jvm.Pilot.CHeraldDeskLaw_law_r4028_bc851c.wI h 11 o k v) o a n tx := ⟨T.1, (jI_k hk).trans T.2.1, T.2.2.1, T.2.2.2.1, fun j hj => by rw [jI_t (by decide)]; exact T.2.2.2.2 j hj⟩
def atS (tx : Nat → Int32) (n p : Nat) : Int32 := if p < n then tx p else 0
theorem s126 {d o a n p : Nat} {tx : Nat → Int32} {h : Hp} {K : Int32 → Hp → Prop} (T : RtX h o a n tx) (hp : p < 2 ^ 30) (k : K (atS tx n p) h) : CI (d + 1) 126 [vR 11 (some o), vI (nI p)] h K := by
  intro P hP
  have h240 := T.1
  unfold atS at k
  refine v126 hP o (nI p) h ⟨fun c => ⟨_, rfl, ?_⟩, fun c => dr_of T.2.2.1 ⟨?_, ?_⟩⟩
  · rw [T.2.1] at c
    rw [if_neg (fun z => nI_ge z (by omega) c)] at k; exact k
  · rw [T.2.1] at c
    have : p < n := by
      rcases Nat.lt_or_ge p n with z | z
      · exact z
      · exact absurd (nI_le z (by omega)) c
    rw [T.2.2.2.1]; exact vp_in_nI (by omega) (by decide)
  · rw [T.2.1] at c
    have hlt : p < n := by
      rcases Nat.lt_or_ge p n with z | z
      · exact z
      · exact absurd (nI_le z (by omega)) c
    rw [if_pos hlt] at k
    rw [show ix (nI p) = p from nI_clamp (by omega), T.2.2.2.2 p hlt]
    exact ⟨_, rfl, k⟩
theorem rn5 {d o a n : Nat} {tx : Nat → Int32} {h : Hp} {Q : Option AV → Hp → Prop} {P : Nat → List AV → List AV → Hp → Prop} (hP : Cl (Call (d + 1)) 125 Q P) (T : RtX h o a n tx) : ∀ (k p : Nat), n = p + k → P 30 [vR 11 (some o), vI (nI (scan isBl tx k p)), un, un, un] [] h → P 5 [vR 11 (some o), vI (nI p), un, un, un] [] h
  | 0, p, hn, kk => by
    have h240 := T.1
    have kk : P 30 [vR 11 (some o), vI (nI p), un, un, un] [] h := kk
    refine v125_5 hP o (nI p) h (s126 T (by omega) ⟨fun _ => kk, fun _ => ⟨fun _ => kk, fun c => absurd ?_ c⟩⟩)
    rw [T.2.1]; exact nI_le (by omega) (by omega)
  | k + 1, p, hn, kk => by
    have h240 := T.1
    have ha : atS tx n p = tx p := if_pos (by omega)
    unfold scan at kk
    refine v125_5 hP o (nI p) h (s126 T (by omega) ?_)
    rw [ha]
    refine ⟨fun c => ?_, fun c => ⟨fun c2 => absurd c2 ?_, fun _ => ?_⟩⟩
    · have : isBl (tx p) = false := decide_eq_false c
      rw [this] at kk
      exact kk
    · rw [T.2.1]; exact nI_ge (by omega) (by omega)
    · have : isBl (tx p) = true := decide_eq_true (Classical.not_not.mp c)
      rw [this] at kk
      rw [nI_1]
      exact rn5 hP T k (p + 1) (by omega) kk
def rtL (h : Hp) (o : Nat) (x y : Int64) : Hp := wL (wL h 11 o 8 x) 11 o 9 y
theorem up3_up3 {α : Type} (f : Nat → Nat → Nat → α) (t a k : Nat) (v w : α) : up3 (up3 f t a k v) t a k w = up3 f t a k w := by
  funext t' a' k'
  unfold up3
  by_cases e : t' = t ∧ a' = a ∧ k' = k
  · rw [if_pos e, if_pos e]
  · rw [if_neg e, if_neg e, if_neg e]
theorem up3_comm {α : Type} (f : Nat → Nat → Nat → α) (t a k k' : Nat) (v w : α) (hk : k ≠ k') : up3 (up3 f t a k v) t a k' w = up3 (up3 f t a k' w) t a k v := by
  funext t' a' j
  unfold up3
  by_cases e1 : t' = t ∧ a' = a ∧ j = k
  · have e2 : ¬ (t' = t ∧ a' = a ∧ j = k') := fun z => hk (e1.2.2.symm.trans z.2.2)
    rw [if_neg e2, if_pos e1, if_pos e1]
  · rw [if_neg e1, if_neg e1]
theorem rtL_9 (h : Hp) (o : Nat) (x y z : Int64) : wL (rtL h o x y) 11 o 9 z = rtL h o x z := by
  show (jN h, jLen h, jI h, up3 (up3 (up3 (jL h) 11 o 8 x) 11 o 9 y) 11 o 9 z, jR h, jC h, jZ h) = _
  rw [up3_up3]; rfl
theorem rtL_8 (h : Hp) (o : Nat) (x y z : Int64) : wL (rtL h o x y) 11 o 8 z = rtL h o z y := by
  show (jN h, jLen h, jI h, up3 (up3 (up3 (jL h) 11 o 8 x) 11 o 9 y) 11 o 8 z, jR h, jC h, jZ h) = _
  rw [up3_comm _ _ _ _ _ _ _ (by decide), up3_up3]; rfl
theorem rtL_j8 (h : Hp) (o : Nat) (x y : Int64) : jL (rtL h o x y) 11 o 8 = x := by
  show up3 (up3 (jL h) 11 o 8 x) 11 o 9 y 11 o 8 = x
  rw [up3_k (by decide)]; exact up3_eq _ _ _ _ _
theorem rtL_j9 (h : Hp) (o : Nat) (x y : Int64) : jL (rtL h o x y) 11 o 9 = y := up3_eq _ _ _ _ _
theorem inS0 : inS 97 122 0 = false := by decide
theorem inS0' : inS 48 57 0 = false := by decide
/-- letters -/
theorem rn84 {d o a n s : Nat} {tx : Nat → Int32} {h : Hp} {x : Int32} {Q : Option AV → Hp → Prop} {P : Nat → List AV → List AV → Hp → Prop} (hP : Cl (Call (d + 1)) 125 Q P) (T : RtX h o a n tx) : ∀ (k m : Nat), n = s + m + k → (∀ M, s + M = scan (inS 97 122) tx k (s + m) → P 167 [vR 11 (some o), vI (nI s), vI x, vI (nI M), un] [vI (if M ≤ 12 then 119 else 63), vR 11 (some o)] (rtL h o (hdX tx s M) (tlX tx s M))) → P 84 [vR 11 (some o), vI (nI s), vI x, vI (nI m), un] [] (rtL h o (hdX tx s m) (tlX tx s m)) := by
  intro k
  have h240 := T.1
  induction k with
  | zero =>
    intro m hn kk
    have kk := kk m rfl
    refine v125_84 hP o (nI s) x (nI m) _ ?_
    rw [nI_add]
    refine s126 (h := rtL h o _ _) T (by omega) (s127 ?_)
    have e : atS tx n (s + m) = 0 := if_neg (by omega)
    rw [e, inS0]
    refine ⟨fun _ => ⟨fun c => ?_, fun c => ?_⟩, fun c => absurd rfl c⟩
    · rw [if_pos (by
        rcases Nat.lt_or_ge 12 m with z | z
        · exact absurd c (nI_ge (a := 12) z (by omega))
        · exact z)] at kk
      exact kk
    · rw [if_neg (fun z => c (nI_le (b := 12) z (by omega)))] at kk
      exact kk
  | succ k ih =>
    intro m hn kk
    have e : atS tx n (s + m) = tx (s + m) := if_pos (by omega)
    refine v125_84 hP o (nI s) x (nI m) _ ?_
    rw [nI_add]
    refine s126 (h := rtL h o _ _) T (by omega) (s127 ?_)
    rw [e]
    unfold scan at kk
    cases hi : inS 97 122 (tx (s + m)) with
    | false =>
      rw [hi] at kk
      have kk := kk m rfl
      refine ⟨fun _ => ⟨fun c => ?_, fun c => ?_⟩, fun c => absurd rfl c⟩
      · rw [if_pos (by
          rcases Nat.lt_or_ge 12 m with z | z
          · exact absurd c (nI_ge (a := 12) z (by omega))
          · exact z)] at kk
        exact kk
      · rw [if_neg (fun z => c (nI_le (b := 12) z (by omega)))] at kk
        exact kk
    | true =>
      rw [hi] at kk
      have hgo : P 84 [vR 11 (some o), vI (nI s), vI x, vI (nI m + 1), un] [] (rtL h o (hdX tx s (m + 1)) (tlX tx s (m + 1))) := by
        rw [nI_1]
        exact ih (m + 1) (by omega) kk
      unfold hdX tlX at hgo
      refine ⟨fun c => absurd c (by decide), fun _ => ⟨fun c => ?_, fun c => ?_⟩⟩
      · have z : ¬ m < 8 := fun y => nI_ge (b := 8) y (by omega) c
        rw [if_neg z, if_neg z] at hgo
        refine s126 (h := rtL h o _ _) T (by omega) (v125_146 hP o (nI s) x (nI m) _ ?_)
        rw [e, rtL_j9, rtL_9]
        exact hgo
      · have z : m < 8 := by
          rcases Nat.lt_or_ge m 8 with y | y
          · exact y
          · exact absurd (nI_le (a := 8) y (by omega)) c
        rw [if_pos z, if_pos z] at hgo
        refine s126 (h := rtL h o _ _) T (by omega) (v125_146 hP o (nI s) x (nI m) _ ?_)
        rw [e, rtL_j8, rtL_8]
        exact hgo
/-- digits -/
def vlX (tx : Nat → Int32) (s : Nat) : Nat → Int32
  | 0 => 0
  | m + 1 => if m < 4 then 10 * vlX tx s m + tx (s + m) - 48 else vlX tx s m
theorem rn180 {d o a n s : Nat} {tx : Nat → Int32} {h : Hp} {x : Int32} {Q : Option AV → Hp → Prop} {P : Nat → List AV → List AV → Hp → Prop} (hP : Cl (Call (d + 1)) 125 Q P) (T : RtX h o a n tx) : ∀ (k m : Nat), n = s + m + k → (∀ M, s + M = scan (inS 48 57) tx k (s + m) → P 247 [vR 11 (some o), vI (nI s), vI x, vI (nI M), un] [vI (if M ≤ 4 then 100 else 63), vR 11 (some o)] (wI h 11 o 7 (vlX tx s M))) → P 180 [vR 11 (some o), vI (nI s), vI x, vI (nI m), un] [] (wI h 11 o 7 (vlX tx s m)) := by
  intro k
  have h240 := T.1
  have TT : ∀ v, RtX (wI h 11 o 7 v) o a n tx := fun v => T.wI (by decide)
  induction k with
  | zero =>
    intro m hn kk
    have kk := kk m rfl
    refine v125_180 hP o (nI s) x (nI m) _ ?_
    rw [nI_add]
    refine s126 (TT _) (by omega) (s128 ?_)
    have e : atS tx n (s + m) = 0 := if_neg (by omega)
    rw [e, inS0']
    refine ⟨fun _ => ⟨fun c => ?_, fun c => ?_⟩, fun c => absurd rfl c⟩
    · rw [if_pos (by
        rcases Nat.lt_or_ge 4 m with z | z
        · exact absurd c (nI_ge (a := 4) z (by omega))
        · exact z)] at kk
      exact kk
    · rw [if_neg (fun z => c (nI_le (b := 4) z (by omega)))] at kk
      exact kk
  | succ k ih =>
    intro m hn kk
    have e : atS tx n (s + m) = tx (s + m) := if_pos (by omega)
    refine v125_180 hP o (nI s) x (nI m) _ ?_
    rw [nI_add]
    refine s126 (TT _) (by omega) (s128 ?_)
    rw [e]
    unfold scan at kk
    cases hi : inS 48 57 (tx (s + m)) with
    | false =>
      rw [hi] at kk
      have kk := kk m rfl
      refine ⟨fun _ => ⟨fun c => ?_, fun c => ?_⟩, fun c => absurd rfl c⟩
      · rw [if_pos (by
          rcases Nat.lt_or_ge 4 m with z | z
          · exact absurd c (nI_ge (a := 4) z (by omega))
          · exact z)] at kk
        exact kk
      · rw [if_neg (fun z => c (nI_le (b := 4) z (by omega)))] at kk
        exact kk
    | true =>
      rw [hi] at kk
      have hgo : P 180 [vR 11 (some o), vI (nI s), vI x, vI (nI m + 1), un] [] (wI h 11 o 7 (vlX tx s (m + 1))) := by
        rw [nI_1]
        exact ih (m + 1) (by omega) kk
      unfold vlX at hgo
      refine ⟨fun c => absurd c (by decide), fun _ => ⟨fun c => ?_, fun c => ?_⟩⟩
      · have z : ¬ m < 4 := fun y => nI_ge (b := 4) y (by omega) c
        rw [if_neg z] at hgo
        refine v125_224 hP o (nI s) x (nI m) _ _ ?_
        rw [jI_same, wI_wI]
        exact hgo
      · have z : m < 4 := by
          rcases Nat.lt_or_ge m 4 with y | y
          · exact y
          · exact absurd (nI_le (a := 4) y (by omega)) c
        rw [if_pos z] at hgo
        refine s126 (TT _) (by omega) (v125_224 hP o (nI s) x (nI m) _ _ ?_)
        rw [e, jI_same, wI_wI]
        exact hgo
/-- the token of another byte -/
def gdB (c : Int32) : Int32 := if c = 44 ∨ c = 43 ∨ c = 45 ∨ c = 42 ∨ c = 61 ∨ c = 60 ∨ c = 62 ∨ c = 40 ∨ c = 41 ∨ c = 58 ∨ c = 59 then c else 63
theorem scan_t {f : Int32 → Bool} {tx : Nat → Int32} {k s : Nat} (hk : 0 < k) (hf : f (tx s) = true) : s < scan f tx k s := by
  cases k with
  | zero => omega
  | succ k =>
    unfold scan
    rw [hf]
    have := (scan_le f tx k (s + 1)).1
    show s < scan f tx k (s + 1)
    omega
theorem scan_f {f : Int32 → Bool} {tx : Nat → Int32} {k s : Nat} (hf : f (tx s) = false) : scan f tx k s = s := by
  cases k with
  | zero => rfl
  | succ k =>
    unfold scan
    rw [hf]
def rtH (h : Hp) (o : Nat) (b vl t x dg : Int32) (hd tl : Int64) : Hp := rtL (wI (wI (wI (wI (wI h 11 o 5 b) 11 o 7 vl) 11 o 4 t) 11 o 6 x) 11 o 10 dg) o hd tl
/-- what the reference's fields hold of token q -/
def RtV (tx : Nat → Int32) (q : Nat × Nat × Nat) (b vl t x dg : Int32) (hd tl : Int64) : Prop := b = nI q.2.1 ∧ x = nI q.2.2 ∧ (q.1 = 0 → t = 0) ∧ (q.1 = 1 → t = (if q.2.2 - q.2.1 ≤ 12 then 119 else 63) ∧ hd = hdX tx q.2.1 (q.2.2 - q.2.1) ∧ tl = tlX tx q.2.1 (q.2.2 - q.2.1)) ∧ (q.1 = 2 → t = (if q.2.2 - q.2.1 ≤ 4 then 100 else 63) ∧ vl = vlX tx q.2.1 (q.2.2 - q.2.1) ∧ dg = nI (q.2.2 - q.2.1)) ∧ (q.1 = 3 → t = gdB (tx q.2.1))
theorem s125 {d o a n p : Nat} {tx : Nat → Int32} {h : Hp} {K : Hp → Prop} (T : RtX h o a n tx) (hx : jI h 11 o 6 = nI p) (hp : p ≤ n) (k : ∀ b vl t x dg hd tl, RtV tx (tkS tx n p) b vl t x dg hd tl → K (rtH h o b vl t x dg hd tl)) : CV (d + 2) 125 [vR 11 (some o)] h K := by
  intro P hP
  refine v125 hP o h ?_
  rw [hx]
  have h240 := T.1
  refine rn5 hP T (n - p) p (by omega) ?_
  have hle := scan_le isBl tx (n - p) p
  unfold tkS at k
  generalize scan isBl tx (n - p) p = s at hle k ⊢
  have T1 : RtX (wI h 11 o 5 (nI s)) o a n tx := T.wI (by decide)
  have T2 : RtX (wI (wL (wL (wI h 11 o 5 (nI s)) 11 o 8 0) 11 o 9 0) 11 o 7 0) o a n tx := RtX.wI (h := wL (wL (wI h 11 o 5 (nI s)) 11 o 8 0) 11 o 9 0) T1 (by decide)
  refine v125_30 hP o (nI s) h (s126 T2 (by omega) ⟨fun c => ?_, fun c => ?_⟩)
  · rw [T2.2.1] at c
    have hlt : s < n := by
      rcases Nat.lt_or_ge s n with z | z
      · exact z
      · exact absurd c (nI_nlt z (by omega))
    have e : atS tx n s = tx s := if_pos hlt
    rw [e]
    refine s127 ?_
    cases hi : inS 97 122 (tx s) with
    | true =>
      have y := scan_t (k := n - s) (by omega) hi
      rw [if_pos y] at k
      refine ⟨fun z => absurd z (by decide), fun _ => ?_⟩
      refine rn84 (s := s) (x := tx s) (h := wI (wI h 11 o 5 (nI s)) 11 o 7 0) hP (T1.wI (by decide)) (n - s) 0 (by omega) (fun M hM => ?_)
      have hM : s + M = scan (inS 97 122) tx (n - s) s := hM
      have e2 : scan (inS 97 122) tx (n - s) s - s = M := by omega
      refine v125_167 hP o (nI s) (tx s) (nI M) _ _ (v125_348 hP o (nI s) (tx s) (nI M) un _ ?_)
      rw [nI_add]
      have kk := k (nI s) 0 (if M ≤ 12 then 119 else 63) (nI (s + M)) (jI h 11 o 10) (hdX tx s M) (tlX tx s M) ⟨rfl, by rw [hM], fun z => absurd z (by decide : ¬ (1 : Nat) = 0), fun _ => ⟨by dsimp only; rw [e2], by dsimp only; rw [e2], by dsimp only; rw [e2]⟩, fun z => absurd z (by decide : ¬ (1 : Nat) = 2), fun z => absurd z (by decide : ¬ (1 : Nat) = 3)⟩
      unfold rtH at kk
      rw [wI_self (by rw [jI_k (by decide), jI_k (by decide), jI_k (by decide), jI_k (by decide)])] at kk
      exact ⟨rfl, kk⟩
    | false =>
      have y : ¬ s < scan (inS 97 122) tx (n - s) s := by rw [scan_f hi]; omega
      rw [if_neg y] at k
      refine ⟨fun _ => s128 ?_, fun z => absurd rfl z⟩
      cases hj : inS 48 57 (tx s) with
      | true =>
        have y := scan_t (k := n - s) (by omega) hj
        rw [if_pos y] at k
        refine ⟨fun z => absurd z (by decide), fun _ => ?_⟩
        refine rn180 (s := s) (x := tx s) (h := rtL (wI h 11 o 5 (nI s)) o 0 0) hP T1 (n - s) 0 (by omega) (fun M hM => ?_)
        have hM : s + M = scan (inS 48 57) tx (n - s) s := hM
        have e2 : scan (inS 48 57) tx (n - s) s - s = M := by omega
        refine v125_247 hP o (nI s) (tx s) (nI M) _ _ (v125_348 hP o (nI s) (tx s) (nI M) un _ ?_)
        rw [nI_add, wI_comm _ _ _ _ _ _ _ (by decide)]
        exact ⟨rfl, k (nI s) (vlX tx s M) (if M ≤ 4 then 100 else 63) (nI (s + M)) (nI M) 0 0 ⟨rfl, by rw [hM], fun z => absurd z (by decide : ¬ (2 : Nat) = 0), fun z => absurd z (by decide : ¬ (2 : Nat) = 1), fun _ => ⟨by dsimp only; rw [e2], by dsimp only; rw [e2], by dsimp only; rw [e2]⟩, fun z => absurd z (by decide : ¬ (2 : Nat) = 3)⟩⟩
      | false =>
        have y : ¬ s < scan (inS 48 57) tx (n - s) s := by rw [scan_f hj]; omega
        rw [if_neg y, if_pos hlt] at k
        have kk := k (nI s) 0 (gdB (tx s)) (nI (s + 1)) (jI h 11 o 10) 0 0 ⟨rfl, rfl, fun z => absurd z (by decide : ¬ (3 : Nat) = 0), fun z => absurd z (by decide : ¬ (3 : Nat) = 1), fun z => absurd z (by decide : ¬ (3 : Nat) = 2), fun _ => rfl⟩
        unfold rtH at kk
        rw [wI_self (by rw [jI_k (by decide), jI_k (by decide), jI_k (by decide), jI_k (by decide)])] at kk
        refine ⟨fun _ => ?_, fun z => absurd rfl z⟩
        have hG : gdB (tx s) = tx s → P 326 [vR 11 (some o), vI (nI s), vI (tx s), vI 1, un] [] (wI (wL (wL (wI h 11 o 5 (nI s)) 11 o 8 0) 11 o 9 0) 11 o 7 0) := by
          intro g
          rw [g] at kk
          refine v125_326 hP o (nI s) (tx s) 1 _ (v125_331 hP o (nI s) (tx s) 1 1 _ ⟨fun z => absurd z (by decide), fun _ => v125_345 hP o (nI s) (tx s) 1 1 _ _ (v125_348 hP o (nI s) (tx s) 1 (vI 1) _ ?_)⟩)
          rw [nI_1]
          exact ⟨rfl, kk⟩
        have hB : gdB (tx s) = 63 → P 331 [vR 11 (some o), vI (nI s), vI (tx s), vI 1, un] [vI 0] (wI (wL (wL (wI h 11 o 5 (nI s)) 11 o 8 0) 11 o 9 0) 11 o 7 0) := by
          intro g
          rw [g] at kk
          refine v125_331 hP o (nI s) (tx s) 1 0 _ ⟨fun _ => v125_345 hP o (nI s) (tx s) 1 0 _ _ (v125_348 hP o (nI s) (tx s) 1 (vI 0) _ ?_), fun z => absurd rfl z⟩
          rw [nI_1]
          exact ⟨rfl, kk⟩
        clear kk k
        exact ⟨fun z0 => hG (if_pos (by simp only [z0, true_or, or_true])), fun z0 => ⟨fun z1 => hG (if_pos (by simp only [z1, true_or, or_true])), fun z1 => ⟨fun z2 => hG (if_pos (by simp only [z2, true_or, or_true])), fun z2 => ⟨fun z3 => hG (if_pos (by simp only [z3, true_or, or_true])), fun z3 => ⟨fun z4 => hG (if_pos (by simp only [z4, true_or, or_true])), fun z4 => ⟨fun z5 => hG (if_pos (by simp only [z5, true_or, or_true])), fun z5 => ⟨fun z6 => hG (if_pos (by simp only [z6, true_or, or_true])), fun z6 => ⟨fun z7 => hG (if_pos (by simp only [z7, true_or, or_true])), fun z7 => ⟨fun z8 => hG (if_pos (by simp only [z8, true_or, or_true])), fun z8 => ⟨fun z9 => hG (if_pos (by simp only [z9, true_or, or_true])), fun z9 => ⟨fun z => hB (if_neg (by simp only [z0, z1, z2, z3, z4, z5, z6, z7, z8, z9, z, or_false, not_false_eq_true])), fun z => hG (if_pos (by simp only [Classical.not_not.mp z, or_true]))⟩⟩⟩⟩⟩⟩⟩⟩⟩⟩⟩
  · rw [T2.2.1] at c
    have hge : n ≤ s := by
      rcases Nat.lt_or_ge s n with z | z
      · exact absurd (nI_lt z (by omega)) c
      · exact z
    have e0 : n - s = 0 := by omega
    have e1 : s = n := by omega
    rw [e0] at k
    rw [if_neg (show ¬ s < scan (inS 97 122) tx 0 s from Nat.lt_irrefl s), if_neg (show ¬ s < scan (inS 48 57) tx 0 s from Nat.lt_irrefl s), if_neg (show ¬ s < n by omega)] at k
    have kk := k (nI s) 0 0 (nI s) (jI h 11 o 10) 0 0 ⟨rfl, by rw [e1], fun _ => rfl, fun z => absurd z (by decide : ¬ (0 : Nat) = 1), fun z => absurd z (by decide : ¬ (0 : Nat) = 2), fun z => absurd z (by decide : ¬ (0 : Nat) = 3)⟩
    unfold rtH at kk
    rw [wI_self (by rw [jI_k (by decide), jI_k (by decide), jI_k (by decide), jI_k (by decide)])] at kk
    exact ⟨rfl, kk⟩
