/-- the token behind place p: its sort (0 the end, 1 a word, 2 digits, 3 another byte), its start, its end -/
def tkS (tx : Nat → Int32) (n p : Nat) : Nat × Nat × Nat :=
  if scan isBl tx (n - p) p < scan (inS 97 122) tx (n - scan isBl tx (n - p) p) (scan isBl tx (n - p) p) then (1, scan isBl tx (n - p) p, scan (inS 97 122) tx (n - scan isBl tx (n - p) p) (scan isBl tx (n - p) p))
  else if scan isBl tx (n - p) p < scan (inS 48 57) tx (n - scan isBl tx (n - p) p) (scan isBl tx (n - p) p) then (2, scan isBl tx (n - p) p, scan (inS 48 57) tx (n - scan isBl tx (n - p) p) (scan isBl tx (n - p) p))
  else if scan isBl tx (n - p) p < n then (3, scan isBl tx (n - p) p, scan isBl tx (n - p) p + 1) else (0, scan isBl tx (n - p) p, n)
def tokH (h : Hp) (o : Nat) (q : Nat × Nat × Nat) : Hp := wI (wI (wI h 9 o 3 (nI q.2.1)) 9 o 4 (nI q.2.2)) 9 o 2 (nI q.1)
/-- Tokens.advance() -/
theorem s77 {d o a n p : Nat} {tx : Nat → Int32} {h : Hp} {K : Hp → Prop} (T : TokX h o a n tx) (he : jI h 9 o 4 = nI p) (hp : p ≤ n) (k : K (tokH h o (tkS tx n p))) : CV (d + 1) 77 [vR 9 (some o)] h K := by
  intro P hP
  refine v77 hP o h ?_
  rw [he]
  refine adv8 hP (n - p) p _ (by omega) (T.wI (by decide)) (jI_same _ _ _ _ _) ?_
  rw [wI_wI]
  unfold tkS at k
  have hle := scan_le isBl tx (n - p) p
  generalize scan isBl tx (n - p) p = s at hle k ⊢
  have hw := scan_le (inS 97 122) tx (n - s) s
  have hd := scan_le (inS 48 57) tx (n - s) s
  refine adv54 (s := s) hP (n - s) s _ (by omega) (Nat.le_refl _) ((T.wI (by decide)).wI (by decide)) (jI_same _ _ _ _ _) (by rw [jI_k (by decide)]; exact jI_same _ _ _ _ _) (fun y => ?_) (fun y => ?_)
  · rw [if_pos y] at k
    rw [wI_wI]
    exact ⟨rfl, k⟩
  · rw [if_neg y] at k
    have e1 : scan (inS 97 122) tx (n - s) s = s := by omega
    rw [e1, wI_wI]
    refine adv123 (s := s) hP (n - s) s _ (by omega) (Nat.le_refl _) ((T.wI (by decide)).wI (by decide)) (jI_same _ _ _ _ _) (by rw [jI_k (by decide)]; exact jI_same _ _ _ _ _) (fun z => ?_) (fun z z2 => ?_) (fun z z2 => ?_)
    · rw [if_pos z] at k
      rw [wI_wI]
      exact ⟨rfl, k⟩
    · rw [if_neg z, if_pos z2] at k
      rw [wI_wI]
      exact ⟨rfl, k⟩
    · rw [if_neg z, if_neg z2] at k
      rw [wI_wI]
      exact ⟨rfl, k⟩
