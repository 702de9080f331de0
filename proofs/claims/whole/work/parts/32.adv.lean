theorem wI_comm (h : Hp) (t a k k' : Nat) (v w : Int32) (hk : k ≠ k') : wI (wI h t a k v) t a k' w = wI (wI h t a k' w) t a k v := by
  have : up3 (up3 (jI h) t a k v) t a k' w = up3 (up3 (jI h) t a k' w) t a k v := by
    funext t' a' j
    unfold up3
    by_cases e1 : t' = t ∧ a' = a ∧ j = k
    · have e2 : ¬ (t' = t ∧ a' = a ∧ j = k') := fun z => hk (e1.2.2.symm.trans z.2.2)
      rw [if_neg e2, if_pos e1, if_pos e1]
    · rw [if_neg e1, if_neg e1]
  show (jN h, jLen h, up3 (up3 (jI h) t a k v) t a k' w, jL h, jR h, jC h, jZ h) = (jN h, jLen h, up3 (up3 (jI h) t a k' w) t a k v, jL h, jR h, jC h, jZ h)
  rw [this]
theorem adv54 {d o a n s : Nat} {tx : Nat → Int32} {Q : Option AV → Hp → Prop} {P : Nat → List AV → List AV → Hp → Prop} (hP : Cl (Call d) 77 Q P) : ∀ (k p : Nat) (h : Hp), n = p + k → s ≤ p → TokX h o a n tx → jI h 9 o 4 = nI p → jI h 9 o 3 = nI s → (s < scan (inS 97 122) tx k p → Q none (wI (wI h 9 o 4 (nI (scan (inS 97 122) tx k p))) 9 o 2 1)) → (¬ s < scan (inS 97 122) tx k p → P 123 [vR 9 (some o)] [] (wI h 9 o 4 (nI (scan (inS 97 122) tx k p)))) → P 54 [vR 9 (some o)] [] h := by
  intro k
  induction k with
  | zero =>
    intro p h hn hsp T he hs k1 k2
    have h30 := T.1
    have k1 : s < p → Q none (wI (wI h 9 o 4 (nI p)) 9 o 2 1) := k1
    have k2 : ¬ s < p → P 123 [vR 9 (some o)] [] (wI h 9 o 4 (nI p)) := k2
    rw [wI_self he] at k1 k2
    refine v77_54 hP o h ⟨fun _ => ⟨fun c => k2 ?_, fun c => k1 ?_⟩, fun c => absurd ?_ c⟩
    · intro z; rw [he, hs] at c; exact nI_ge z (by omega) c
    · rcases Nat.lt_or_ge s p with z | z
      · exact z
      · exact absurd (by rw [he, hs]; exact nI_le z (by omega)) c
    · rw [T.2.1, he, hn]; exact nI_le (Nat.le_refl _) (by omega)
  | succ k ih =>
    intro p h hn hsp T he hs k1 k2
    have h30 := T.1
    have hlt : p < n := by omega
    have ht : jI h 23 a (ix (jI h 9 o 4)) = tx p := by
      rw [he, show ix (nI p) = p from nI_clamp (by omega)]
      exact T.2.2.2.2.2 p hlt
    have hvp : vp_in (jI h 9 o 4) (jLen h 23 a) := by rw [he]; exact vp_in_nI (by have := T.2.2.2.1; omega) (by have := T.2.2.2.2.1; omega)
    have hexit : inS 97 122 (tx p) = false → (jI h 9 o 4 ≤ jI h 9 o 3 → P 123 [vR 9 (some o)] [] h) ∧ (¬ jI h 9 o 4 ≤ jI h 9 o 3 → Q none (wI h 9 o 2 1)) := by
      intro z
      unfold scan at k1 k2
      rw [z] at k1 k2
      have k1 : s < p → Q none (wI (wI h 9 o 4 (nI p)) 9 o 2 1) := k1
      have k2 : ¬ s < p → P 123 [vR 9 (some o)] [] (wI h 9 o 4 (nI p)) := k2
      rw [wI_self he] at k1 k2
      refine ⟨fun c => k2 ?_, fun c => k1 ?_⟩
      · intro z; rw [he, hs] at c; exact nI_ge z (by omega) c
      · rcases Nat.lt_or_ge s p with z | z
        · exact z
        · exact absurd (by rw [he, hs]; exact nI_le z (by omega)) c
    refine v77_54 hP o h ⟨fun c => absurd c ?_, fun _ => dr_of T.2.2.1 ⟨hvp, ?_⟩⟩
    · rw [T.2.1, he]; exact nI_ge hlt (by omega)
    · rw [ht]
      refine ⟨fun c => hexit (by simp [inS, c]), fun c => dr_of T.2.2.1 ⟨hvp, ?_⟩⟩
      rw [ht]
      refine ⟨fun c2 => hexit (by simp [inS, c, c2]), fun c2 => ?_⟩
      have z : inS 97 122 (tx p) = true := by simp [inS, c, c2]
      unfold scan at k1 k2
      rw [z] at k1 k2
      refine ih (p + 1) _ (by omega) (by omega) (T.wI (by decide)) (by rw [jI_same, he]; exact nI_1 p) (by rw [jI_k (by decide)]; exact hs) (fun y => ?_) (fun y => ?_)
      · rw [wI_wI]; exact k1 y
      · rw [wI_wI]; exact k2 y
/-- the end of advance, where no letters came: digits, another byte, the end -/
theorem adv123 {d o a n s : Nat} {tx : Nat → Int32} {Q : Option AV → Hp → Prop} {P : Nat → List AV → List AV → Hp → Prop} (hP : Cl (Call d) 77 Q P) : ∀ (k p : Nat) (h : Hp), n = p + k → s ≤ p → TokX h o a n tx → jI h 9 o 4 = nI p → jI h 9 o 3 = nI s → (s < scan (inS 48 57) tx k p → Q none (wI (wI h 9 o 4 (nI (scan (inS 48 57) tx k p))) 9 o 2 2)) → (¬ s < scan (inS 48 57) tx k p → s < n → Q none (wI (wI h 9 o 4 (nI (s + 1))) 9 o 2 3)) → (¬ s < scan (inS 48 57) tx k p → ¬ s < n → Q none (wI (wI h 9 o 4 (nI n)) 9 o 2 0)) → P 123 [vR 9 (some o)] [] h := by
  have fin : ∀ (p : Nat) (h : Hp), p ≤ n → s ≤ p → TokX h o a n tx → jI h 9 o 4 = nI p → jI h 9 o 3 = nI s → (s < p → Q none (wI (wI h 9 o 4 (nI p)) 9 o 2 2)) → (¬ s < p → s < n → Q none (wI (wI h 9 o 4 (nI (s + 1))) 9 o 2 3)) → (¬ s < p → ¬ s < n → Q none (wI (wI h 9 o 4 (nI n)) 9 o 2 0)) → (jI h 9 o 4 ≤ jI h 9 o 3 → (jI h 9 o 1 ≤ jI h 9 o 3 → Q none (wI (wI h 9 o 2 0) 9 o 4 (mn2 ((jI (wI h 9 o 2 0) 9 o 3) + 1) (jI (wI h 9 o 2 0) 9 o 1)))) ∧ (¬ jI h 9 o 1 ≤ jI h 9 o 3 → Q none (wI (wI h 9 o 2 3) 9 o 4 (mn2 ((jI (wI h 9 o 2 3) 9 o 3) + 1) (jI (wI h 9 o 2 3) 9 o 1))))) ∧ (¬ jI h 9 o 4 ≤ jI h 9 o 3 → Q none (wI h 9 o 2 2)) := by
    intro p h hp hsp T he hs k1 k2 k3
    have h30 := T.1
    rw [wI_self he] at k1
    refine ⟨fun c => ?_, fun c => k1 ?_⟩
    · have hns : ¬ s < p := by intro z; rw [he, hs] at c; exact nI_ge z (by omega) c
      refine ⟨fun c2 => ?_, fun c2 => ?_⟩
      · have hnn : ¬ s < n := by intro z; rw [T.2.1, hs] at c2; exact nI_ge z (by omega) c2
        have e1 : mn2 (jI (wI h 9 o 2 0) 9 o 3 + 1) (jI (wI h 9 o 2 0) 9 o 1) = nI n := by
          rw [jI_k (by decide), jI_k (by decide), hs, T.2.1, nI_1]
          unfold mn2
          rw [if_pos (nI_lt (by omega) (by omega))]
        rw [e1, wI_comm _ _ _ _ _ _ _ (by decide)]
        exact k3 hns hnn
      · have hnn : s < n := by
          rcases Nat.lt_or_ge s n with z | z
          · exact z
          · exact absurd (by rw [T.2.1, hs]; exact nI_le z (by omega)) c2
        have e1 : mn2 (jI (wI h 9 o 2 3) 9 o 3 + 1) (jI (wI h 9 o 2 3) 9 o 1) = nI (s + 1) := by
          rw [jI_k (by decide), jI_k (by decide), hs, T.2.1, nI_1]
          unfold mn2
          rw [if_neg (nI_nlt (by omega) (by omega))]
        rw [e1, wI_comm _ _ _ _ _ _ _ (by decide)]
        exact k2 hns hnn
    · rcases Nat.lt_or_ge s p with z | z
      · exact z
      · exact absurd (by rw [he, hs]; exact nI_le z (by omega)) c
  intro k
  induction k with
  | zero =>
    intro p h hn hsp T he hs k1 k2 k3
    have h30 := T.1
    refine v77_123 hP o h ⟨fun _ => fin p h (by omega) hsp T he hs k1 k2 k3, fun c => absurd ?_ c⟩
    rw [T.2.1, he, hn]; exact nI_le (Nat.le_refl _) (by omega)
  | succ k ih =>
    intro p h hn hsp T he hs k1 k2 k3
    have h30 := T.1
    have hlt : p < n := by omega
    have ht : jI h 23 a (ix (jI h 9 o 4)) = tx p := by
      rw [he, show ix (nI p) = p from nI_clamp (by omega)]
      exact T.2.2.2.2.2 p hlt
    have hvp : vp_in (jI h 9 o 4) (jLen h 23 a) := by rw [he]; exact vp_in_nI (by have := T.2.2.2.1; omega) (by have := T.2.2.2.2.1; omega)
    have hf : inS 48 57 (tx p) = false → scan (inS 48 57) tx (k + 1) p = p := by
      intro z
      unfold scan
      rw [z]
    have hexit : inS 48 57 (tx p) = false → _ := fun z => fin p h (by omega) hsp T he hs (by rw [hf z] at k1; exact k1) (by rw [hf z] at k2; exact k2) (by rw [hf z] at k3; exact k3)
    refine v77_123 hP o h ⟨fun c => absurd c ?_, fun _ => dr_of T.2.2.1 ⟨hvp, ?_⟩⟩
    · rw [T.2.1, he]; exact nI_ge hlt (by omega)
    · rw [ht]
      refine ⟨fun c => hexit (by simp [inS, c]), fun c => dr_of T.2.2.1 ⟨hvp, ?_⟩⟩
      rw [ht]
      refine ⟨fun c2 => hexit (by simp [inS, c, c2]), fun c2 => ?_⟩
      have z : inS 48 57 (tx p) = true := by simp [inS, c, c2]
      have hg : scan (inS 48 57) tx (k + 1) p = scan (inS 48 57) tx k (p + 1) := by
        show (match inS 48 57 (tx p) with
          | true => scan (inS 48 57) tx k (p + 1)
          | false => p) = _
        rw [z]
      rw [hg] at k1 k2 k3
      refine ih (p + 1) _ (by omega) (by omega) (T.wI (by decide)) (by rw [jI_same, he]; exact nI_1 p) (by rw [jI_k (by decide)]; exact hs) (fun y => ?_) (fun y y2 => ?_) (fun y y2 => ?_)
      · rw [wI_wI]; exact k1 y
      · rw [wI_wI]; exact k2 y y2
      · rw [wI_wI]; exact k3 y y2
