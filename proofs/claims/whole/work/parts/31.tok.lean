/-! heaps: what is read behind a write; runs of bytes in a text -/
theorem jI_same (h : Hp) (t a k : Nat) (v : Int32) : jI (wI h t a k v) t a k = v := up3_eq _ _ _ _ _
theorem jI_k {h : Hp} {t a k t' a' j : Nat} {v : Int32} (hj : j ≠ k) : jI (wI h t a k v) t' a' j = jI h t' a' j := up3_k hj
theorem jI_t {h : Hp} {t a k t' a' j : Nat} {v : Int32} (ht : t' ≠ t) : jI (wI h t a k v) t' a' j = jI h t' a' j := up3_ne (fun e => ht e.1)
theorem jI_a {h : Hp} {t a k t' a' j : Nat} {v : Int32} (ha : a' ≠ a) : jI (wI h t a k v) t' a' j = jI h t' a' j := up3_ne (fun e => ha e.2)
theorem wI_wI (h : Hp) (t a k : Nat) (v w : Int32) : wI (wI h t a k v) t a k w = wI h t a k w := by
  have : up3 (up3 (jI h) t a k v) t a k w = up3 (jI h) t a k w := by
    funext t' a' k'
    unfold up3
    by_cases e : t' = t ∧ a' = a ∧ k' = k
    · rw [if_pos e, if_pos e]
    · rw [if_neg e, if_neg e, if_neg e]
  show (jN h, jLen h, up3 (up3 (jI h) t a k v) t a k w, jL h, jR h, jC h, jZ h) = _
  rw [this]
  rfl
theorem wI_self {h : Hp} {t a k : Nat} {v : Int32} (e : jI h t a k = v) : wI h t a k v = h := by
  have : up3 (jI h) t a k v = jI h := by
    funext t' a' k'
    unfold up3
    by_cases z : t' = t ∧ a' = a ∧ k' = k
    · rw [if_pos z, z.1, z.2.1, z.2.2, e]
    · rw [if_neg z]
  show (jN h, jLen h, up3 (jI h) t a k v, jL h, jR h, jC h, jZ h) = h
  rw [this]
/-- the end of a run of bytes of a kind, from p on, among k bytes -/
def scan (f : Int32 → Bool) (tx : Nat → Int32) : Nat → Nat → Nat
  | 0, p => p
  | k + 1, p => match f (tx p) with
    | true => scan f tx k (p + 1)
    | false => p
theorem scan_le (f : Int32 → Bool) (tx : Nat → Int32) : ∀ k p, p ≤ scan f tx k p ∧ scan f tx k p ≤ p + k
  | 0, p => ⟨Nat.le_refl _, Nat.le_refl _⟩
  | k + 1, p => by
    unfold scan
    split
    · have := scan_le f tx k (p + 1)
      exact ⟨by omega, by omega⟩
    · exact ⟨Nat.le_refl _, by omega⟩
/-- the class's Tokens o over a text tx of n bytes in the row a -/
def TokX (h : Hp) (o a n : Nat) (tx : Nat → Int32) : Prop := n < 2 ^ 30 ∧ jI h 9 o 1 = nI n ∧ jR h 9 o 0 = some a ∧ n ≤ jLen h 23 a ∧ jLen h 23 a < 2 ^ 30 ∧ ∀ j, j < n → jI h 23 a j = tx j
theorem TokX.wI {h : Hp} {o a n : Nat} {tx : Nat → Int32} (T : TokX h o a n tx) {k : Nat} {v : Int32} (hk : 1 ≠ k) : TokX (_root_.Jvm.Pilot.CHeraldDeskLaw_law_r4028_bc851c.wI h 9 o k v) o a n tx := ⟨T.1, (jI_k hk).trans T.2.1, T.2.2.1, T.2.2.2.1, T.2.2.2.2.1, fun j hj => (jI_t (by decide)).trans (T.2.2.2.2.2 j hj)⟩
def isBl (c : Int32) : Bool := decide (c = 32)
theorem adv8 {d o a n : Nat} {tx : Nat → Int32} {Q : Option AV → Hp → Prop} {P : Nat → List AV → List AV → Hp → Prop} (hP : Cl (Call d) 77 Q P) : ∀ (k p : Nat) (h : Hp), n = p + k → TokX h o a n tx → jI h 9 o 3 = nI p → P 54 [vR 9 (some o)] [] (wI (wI h 9 o 3 (nI (scan isBl tx k p))) 9 o 4 (nI (scan isBl tx k p))) → P 8 [vR 9 (some o)] [] h
  | 0, p, h, hn, T, hs, kk => by
    have kk : P 54 [vR 9 (some o)] [] (wI (wI h 9 o 3 (nI p)) 9 o 4 (nI p)) := kk
    rw [wI_self hs] at kk
    refine v77_8 hP o h ⟨fun _ => ?_, fun c => absurd ?_ c⟩
    · rw [hs]; exact kk
    · rw [T.2.1, hs, hn]; exact nI_le (Nat.le_refl _) (by have := T.1; omega)
  | k + 1, p, h, hn, T, hs, kk => by
    have hlt : p < n := by omega
    have h30 := T.1
    refine v77_8 hP o h ⟨fun c => absurd c ?_, fun _ => dr_of T.2.2.1 ⟨?_, ?_⟩⟩
    · rw [T.2.1, hs]; exact nI_ge hlt (by omega)
    · rw [hs]; exact vp_in_nI (by have := T.2.2.2.1; omega) (by have := T.2.2.2.2.1; omega)
    · have ht : jI h 23 a (ix (jI h 9 o 3)) = tx p := by
        rw [hs, show ix (nI p) = p from nI_clamp (by omega)]
        exact T.2.2.2.2.2 p hlt
      rw [ht]
      unfold scan at kk
      refine ⟨fun c => ?_, fun c => ?_⟩
      · have : isBl (tx p) = false := decide_eq_false c
        rw [this] at kk
        have kk : P 54 [vR 9 (some o)] [] (wI (wI h 9 o 3 (nI p)) 9 o 4 (nI p)) := kk
        rw [wI_self hs] at kk
        rw [hs]
        exact kk
      · have : isBl (tx p) = true := decide_eq_true (Classical.not_not.mp c)
        rw [this] at kk
        have kk : P 54 [vR 9 (some o)] [] (wI (wI h 9 o 3 (nI (scan isBl tx k (p + 1)))) 9 o 4 (nI (scan isBl tx k (p + 1)))) := kk
        refine adv8 hP k (p + 1) _ (by omega) (T.wI (by decide)) (by rw [jI_same, hs]; exact nI_1 p) ?_
        rw [wI_wI]
        exact kk
