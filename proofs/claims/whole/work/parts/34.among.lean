/-- how much of a word is matched behind another letter -/
def amM (tx : Nat → Int32) (s len : Nat) (c : Int32) (m : Option Nat) : Option Nat := match m with
  | some j => if j < len ∧ tx (s + j) = c then some (j + 1) else none
  | none => none
/-- the number of a word of len bytes from place s on in a list of words, each with a blank behind it -/
def amG (tx : Nat → Int32) (s len : Nat) : List Int32 → Nat → Option Nat → Option Nat
  | [], _, _ => none
  | c :: r, num, m => if c = 32 then (if m = some len then some num else amG tx s len r (num + 1) (some 0)) else amG tx s len r num (amM tx s len c m)
def mI : Option Nat → Int32
  | none => -1
  | some j => nI j
def mR (q : Option Nat) : Int32 := match q with
  | some j => nI j
  | none => -1
theorem nI_m1 {j : Nat} (h : j < 2 ^ 30) : ¬ nI j = -1 := by
  intro e
  have := congrArg Int32.toInt e
  rw [nI_toInt (by omega)] at this
  have e2 : (-1 : Int32).toInt = -1 := by decide
  omega
theorem am17 {d o a n e s b : Nat} {tx : Nat → Int32} {h : Hp} {Q : Option AV → Hp → Prop} {P : Nat → List AV → List AV → Hp → Prop} (hP : Cl (Call (d + 2)) 81 Q P) (T : TokX h o a n tx) (hs : jI h 9 o 3 = nI s) (he : jI h 9 o 4 = nI e) (hse : s ≤ e) (hen : e ≤ n) (hb : (romB b).length < 2 ^ 20) : ∀ (r : List Int32) (i num : Nat) (m : Option Nat) (w5 w6 : AV), (romB b).drop i = r → i ≤ (romB b).length → num ≤ i → (∀ j, m = some j → j ≤ i) → Q (some (vI (mR (amG tx s (e - s) r num m)))) h → P 17 [vR 9 (some o), vR 40 (some b), vI (nI num), vI (mI m), vI (nI i), w5, w6] [] h := by
  have h30 := T.1
  intro r
  induction r with
  | nil =>
    intro i num m w5 w6 hd hi hnum hm k
    have hlen : (romB b).length ≤ i := by
      have := congrArg List.length hd
      rw [List.length_drop] at this
      have e0 : ([] : List Int32).length = 0 := rfl
      omega
    refine v81_17 hP o (some b) (nI num) (mI m) (nI i) w5 w6 h (s228 ⟨fun _ => k, fun c => absurd ?_ c⟩)
    exact nI_le hlen (by omega)
  | cons c r ih =>
    intro i num m w5 w6 hd hi hnum hm k
    have hlt : i < (romB b).length := by
      rcases Nat.lt_or_ge i (romB b).length with z | z
      · exact z
      · rw [List.drop_eq_nil_of_le z] at hd; cases hd
    have hc : (romB b).getD (ix (nI i)) 0 = c := by
      rw [show ix (nI i) = i from nI_clamp (by omega), List.getD_eq_getElem?_getD]
      have := congrArg (fun l => l[0]?) hd
      simp only [List.getElem?_drop, Nat.add_zero, List.getElem?_cons_zero] at this
      rw [this]
      rfl
    have hd2 : (romB b).drop (i + 1) = r := by
      have := congrArg List.tail hd
      rw [List.tail_drop] at this
      exact this
    refine v81_17 hP o (some b) (nI num) (mI m) (nI i) w5 w6 h (s228 ⟨fun z => absurd z (nI_ge hlt (by omega)), fun _ => s230 (nI_pos (by omega)) (nI_lt hlt (by omega)) (vp_in_nI hlt (by omega)) ?_⟩)
    rw [hc]
    have hI : nI i + 1 = nI (i + 1) := nI_1 i
    have hgo : ∀ (m' : Option Nat) (w5 w6 : AV), (∀ j, m' = some j → j ≤ i + 1) → ¬ c = 32 → amM tx s (e - s) c m = m' → P 17 [vR 9 (some o), vR 40 (some b), vI (nI num), vI (mI m'), vI (nI i + 1), w5, w6] [] h := by
      intro m' w5 w6 hm' hc32 em
      rw [hI]
      refine ih (i + 1) num m' w5 w6 hd2 (by omega) (by omega) hm' ?_
      unfold amG at k
      rw [if_neg hc32, em] at k
      exact k
    refine ⟨fun z => ⟨fun y => ?_, fun y => ⟨fun x => ?_, fun x => dr_of T.2.2.1 ⟨?_, fun u => ?_, fun u => ?_⟩⟩⟩, fun z => ⟨fun y => ?_, fun y => ?_⟩⟩
    · cases m with
      | none => exact hgo none _ _ (fun j hj => by cases hj) z rfl
      | some j => exact absurd y (nI_m1 (by have := hm j rfl; omega))
    · cases m with
      | none => exact absurd rfl y
      | some j =>
        have hj := hm j rfl
        have : ¬ j < e - s := by
          intro q
          rw [hs, he] at x
          have x2 : nI e ≤ nI s + nI j := x
          rw [nI_add] at x2
          exact nI_ge (by omega) (by omega) x2
        exact hgo none _ _ (fun j hj => by cases hj) z (if_neg (fun q => this q.1))
    · cases m with
      | none => exact absurd rfl y
      | some j =>
        have hj := hm j rfl
        rw [hs, he] at x
        have x2 : ¬ nI e ≤ nI s + nI j := x
        show vp_in (jI h 9 o 3 + nI j) (jLen h 23 a)
        rw [hs, nI_add]
        have : s + j < e := by
          rcases Nat.lt_or_ge (s + j) e with q | q
          · exact q
          · exact absurd (by rw [nI_add]; exact nI_le q (by omega)) x2
        exact vp_in_nI (by have := T.2.2.2.1; omega) (by have := T.2.2.2.2.1; omega)
    · cases m with
      | none => exact absurd rfl y
      | some j =>
        have hj := hm j rfl
        rw [hs, he] at x
        have x2 : ¬ nI e ≤ nI s + nI j := x
        have hlt2 : s + j < e := by
          rcases Nat.lt_or_ge (s + j) e with q | q
          · exact q
          · exact absurd (by rw [nI_add]; exact nI_le q (by omega)) x2
        have ht : jI h 23 a (ix (jI h 9 o 3 + mI (some j))) = tx (s + j) := by
          rw [hs, show nI s + mI (some j) = nI (s + j) from nI_add s j, show ix (nI (s + j)) = s + j from nI_clamp (by omega)]
          exact T.2.2.2.2.2 _ (by omega)
        rw [ht] at u
        exact hgo none _ _ (fun j hj => by cases hj) z (if_neg (fun q => u q.2))
    · cases m with
      | none => exact absurd rfl y
      | some j =>
        have hj := hm j rfl
        rw [hs, he] at x
        have x2 : ¬ nI e ≤ nI s + nI j := x
        have hlt2 : s + j < e := by
          rcases Nat.lt_or_ge (s + j) e with q | q
          · exact q
          · exact absurd (by rw [nI_add]; exact nI_le q (by omega)) x2
        have ht : jI h 23 a (ix (jI h 9 o 3 + mI (some j))) = tx (s + j) := by
          rw [hs, show nI s + mI (some j) = nI (s + j) from nI_add s j, show ix (nI (s + j)) = s + j from nI_clamp (by omega)]
          exact T.2.2.2.2.2 _ (by omega)
        rw [ht] at u
        have := hgo (some (j + 1)) (vI c) (vI 1) (fun j' hj' => by cases hj'; omega) z (if_pos ⟨by omega, Classical.not_not.mp u⟩)
        rw [show mI (some j) + 1 = mI (some (j + 1)) from nI_1 j]
        exact this
    · have hc32 : c = 32 := Classical.not_not.mp z
      have hml : ¬ m = some (e - s) := by
        intro q
        refine y ?_
        rw [q, hs, he, pk_sub hse]
        rfl
      rw [hI, nI_1]
      refine ih (i + 1) (num + 1) (some 0) _ _ hd2 (by omega) (by omega) (fun j hj => by cases hj; omega) ?_
      unfold amG at k
      rw [if_pos hc32, if_neg hml] at k
      exact k
    · have hc32 : c = 32 := Classical.not_not.mp z
      have hml : m = some (e - s) := by
        have y2 := Classical.not_not.mp y
        rw [hs, he, pk_sub hse] at y2
        cases m with
        | none => exact absurd y2.symm (nI_m1 (by omega))
        | some j =>
          have hj := hm j rfl
          rw [(nI_eq (by omega) (by omega)).mp y2]
      unfold amG at k
      rw [if_pos hc32, if_pos hml] at k
      exact k
/-- Tokens.among(list) -/
theorem s81 {d o a n e s b : Nat} {tx : Nat → Int32} {h : Hp} {K : Int32 → Hp → Prop} (T : TokX h o a n tx) (hs : jI h 9 o 3 = nI s) (he : jI h 9 o 4 = nI e) (hse : s ≤ e) (hen : e ≤ n) (hb : (romB b).length < 2 ^ 20) (k1 : jI h 9 o 2 = 1 → K (mR (amG tx s (e - s) (romB b) 0 (some 0))) h) (k2 : ¬ jI h 9 o 2 = 1 → K (-1) h) : CI (d + 3) 81 [vR 9 (some o), vR 40 (some b)] h K := by
  intro P hP
  refine v81 hP o (some b) h ⟨fun c => ?_, fun c => ⟨_, rfl, k2 c⟩⟩
  exact am17 hP T hs he hse hen hb (romB b) 0 0 (some 0) un un rfl (Nat.zero_le _) (Nat.le_refl _) (fun j hj => by cases hj; exact Nat.le_refl _) ⟨_, rfl, k1 c⟩
