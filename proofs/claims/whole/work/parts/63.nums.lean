/-! numbers and signs over positions -/
theorem tkS_dig {tx : Nat → Int32} {n p : Nat} (h : (tkS tx n p).1 = 2) : ∀ j, j < (tkS tx n p).2.2 - (tkS tx n p).2.1 → inS 48 57 (tx ((tkS tx n p).2.1 + j)) = true := by
  unfold tkS at h ⊢
  generalize scan isBl tx (n - p) p = s at h ⊢
  by_cases y : s < scan (inS 97 122) tx (n - s) s
  · rw [if_pos y] at h
    exact absurd h (by decide : ¬ (1 : Nat) = 2)
  · rw [if_neg y] at h ⊢
    by_cases y2 : s < scan (inS 48 57) tx (n - s) s
    · rw [if_pos y2]
      intro j hj
      have hj : j < scan (inS 48 57) tx (n - s) s - s := hj
      exact scan_all (k := n - s) (s := s) (by dsimp only; omega) (by dsimp only; omega)
    · rw [if_neg y2] at h
      split at h
      · exact absurd h (by decide : ¬ (3 : Nat) = 2)
      · exact absurd h (by decide : ¬ (0 : Nat) = 2)
theorem inS_dg {c : Int32} (h : inS 48 57 c = true) : ∃ j, j < 10 ∧ c = nI (j + 48) := by
  unfold inS at h
  simp only [Bool.and_eq_true, Bool.not_eq_true', decide_eq_false_iff_not] at h
  have h1 := h.1
  have h2 := h.2
  simp only [Int32.lt_iff_toInt_lt, Int32.reduceToInt] at h1 h2
  refine ⟨c.toInt.toNat - 48, by omega, ?_⟩
  rw [← Int32.toInt_inj, nI_toInt (by omega)]
  omega
/-- the number that the m digits from s on tell -/
def dgN (tx : Nat → Int32) (s : Nat) : Nat → Nat
  | 0 => 0
  | m + 1 => dgN tx s m * 10 + (ix (tx (s + m)) - 48)
theorem dgN_lt {tx : Nat → Int32} {s : Nat} : ∀ {m : Nat}, (∀ j, j < m → inS 48 57 (tx (s + j)) = true) → dgN tx s m < 10 ^ m
  | 0, _ => Nat.zero_lt_one
  | m + 1, h => by
    have ih := dgN_lt (m := m) (fun j hj => h j (by omega))
    obtain ⟨j, hj, e⟩ := inS_dg (h m (by omega))
    unfold dgN
    rw [e, show ix (nI (j + 48)) = j + 48 from nI_clamp (by omega), Nat.pow_succ]
    omega
theorem numG_sn (tx : Nat → Int32) : ∀ (k p : Nat) (v : Int32), numG tx (k + 1) p v = numG tx k p v * 10 + (tx (p + k) - 48)
  | 0, p, v => rfl
  | k + 1, p, v => by
    show numG tx (k + 1) (p + 1) (v * 10 + (tx p - 48)) = numG tx k (p + 1) (v * 10 + (tx p - 48)) * 10 + (tx (p + (k + 1)) - 48)
    rw [numG_sn tx k (p + 1), show p + 1 + k = p + (k + 1) by omega]
theorem numG_N {tx : Nat → Int32} {s : Nat} : ∀ {m : Nat}, (∀ j, j < m → inS 48 57 (tx (s + j)) = true) → numG tx m s 0 = nI (dgN tx s m)
  | 0, _ => rfl
  | m + 1, h => by
    obtain ⟨j, hj, e⟩ := inS_dg (h m (by omega))
    rw [numG_sn, numG_N (m := m) (fun j hj => h j (by omega))]
    show _ = nI (dgN tx s m * 10 + (ix (tx (s + m)) - 48))
    rw [e, show ix (nI (j + 48)) = j + 48 from nI_clamp (by omega)]
    have e1 : nI (j + 48) - 48 = nI j := by
      show nI (j + 48) - nI 48 = nI j
      rw [pk_sub (by omega)]; congr 1
    rw [e1]
    show nI (dgN tx s m) * nI 10 + nI j = _
    rw [pk_mul, nI_add]; congr 1
theorem vlX_N {tx : Nat → Int32} {s : Nat} : ∀ {m : Nat}, (∀ j, j < m → inS 48 57 (tx (s + j)) = true) → m ≤ 4 → vlX tx s m = nI (dgN tx s m)
  | 0, _, _ => rfl
  | m + 1, h, h4 => by
    obtain ⟨j, hj, e⟩ := inS_dg (h m (by omega))
    unfold vlX dgN
    rw [if_pos (by omega), vlX_N (m := m) (fun j hj => h j (by omega)) (by omega), e, show ix (nI (j + 48)) = j + 48 from nI_clamp (by omega)]
    show nI 10 * nI (dgN tx s m) + nI (j + 48) - nI 48 = _
    rw [pk_mul, nI_add, pk_sub (by omega)]; congr 1; omega
/-- the number of at most m digits at p; 10000: none -/
def nmN (tx : Nat → Int32) (n m p : Nat) : Nat := if (tkS tx n p).1 = 2 ∧ (tkS tx n p).2.2 - (tkS tx n p).2.1 ≤ m then dgN tx (tkS tx n p).2.1 ((tkS tx n p).2.2 - (tkS tx n p).2.1) else 10000
theorem nmN_lt {tx : Nat → Int32} {n m p : Nat} (hm : m ≤ 4) : nmN tx n m p < 10000 ↔ ((tkS tx n p).1 = 2 ∧ (tkS tx n p).2.2 - (tkS tx n p).2.1 ≤ m) := by
  unfold nmN
  by_cases z : (tkS tx n p).1 = 2 ∧ (tkS tx n p).2.2 - (tkS tx n p).2.1 ≤ m
  · rw [if_pos z]
    refine ⟨fun _ => z, fun _ => ?_⟩
    have h1 := dgN_lt (tkS_dig z.1)
    have h2 : 10 ^ ((tkS tx n p).2.2 - (tkS tx n p).2.1) ≤ 10 ^ 4 := Nat.pow_le_pow_right (by decide) (by omega)
    have h3 : 10 ^ 4 = 10000 := by decide
    omega
  · rw [if_neg z]
    exact ⟨fun y => absurd y (by decide), fun y => absurd y z⟩
theorem nmS_N {tx : Nat → Int32} {n m p : Nat} (hm : m ≤ 4) : nmS tx n p m = if nmN tx n m p < 10000 then nI (nmN tx n m p) else -1 := by
  have h := nmN_lt (tx := tx) (n := n) (p := p) hm
  unfold nmS numS
  by_cases z : (tkS tx n p).1 = 2 ∧ (tkS tx n p).2.2 - (tkS tx n p).2.1 ≤ m
  · rw [if_pos z, if_pos (h.mpr z), numG_N (tkS_dig z.1)]
    unfold nmN
    rw [if_pos z]
  · rw [if_neg z, if_neg (fun y => z (h.mp y))]
/-- the reference's number -/
theorem rt_num {h : Hp} {o a n p : Nat} {tx : Nat → Int32} (R : RtAt h o a n tx p) : (jI h 11 o 4 = 100 ↔ nmN tx n 4 p < 10000) ∧ (nmN tx n 4 p < 10000 → jI h 11 o 7 = nI (nmN tx n 4 p) ∧ jI h 11 o 10 = nI ((tkS tx n p).2.2 - (tkS tx n p).2.1)) := by
  rw [nmN_lt (by decide)]
  have hN : (tkS tx n p).1 = 2 ∧ (tkS tx n p).2.2 - (tkS tx n p).2.1 ≤ 4 → nmN tx n 4 p = dgN tx (tkS tx n p).2.1 ((tkS tx n p).2.2 - (tkS tx n p).2.1) := fun z => if_pos z
  have hD := tkS_dig (tx := tx) (n := n) (p := p)
  obtain ⟨T, hp, r1, r2, r3, r4, r5, r6⟩ := R
  have g100 : ∀ c, ¬ gdB c = 100 := by
    intro c h
    unfold gdB at h
    split at h
    · rename_i z
      subst h
      exact absurd z (by decide)
    · exact absurd h (by decide)
  refine ⟨?_, fun z => ?_⟩
  · rcases tkS_3 (tx := tx) hp with h0 | h0 | h0 | h0
    · rw [r3 h0]; exact ⟨fun e => absurd e (by decide), fun e => by omega⟩
    · rw [(r4 h0).1]
      refine ⟨fun e => ?_, fun e => by omega⟩
      split at e
      · exact absurd e (by decide)
      · exact absurd e (by decide)
    · rw [(r5 h0).1]
      refine ⟨fun e => ?_, fun e => if_pos e.2⟩
      split at e
      · rename_i z; exact ⟨h0, z⟩
      · exact absurd e (by decide)
    · rw [r6 h0]; exact ⟨fun e => absurd e (g100 _), fun e => by omega⟩
  · obtain ⟨q1, q2, q3⟩ := r5 z.1
    rw [hN z, q2, q3]
    exact ⟨vlX_N (hD z.1) z.2, rfl⟩
/-- the sign that a code names; 9: none -/
def sgK (c : Nat) : Nat := if c = 343 then 0 else if c = 345 then 1 else if c = 342 then 2 else if c = 361 then 3 else if c = 360 then 4 else if c = 362 then 5 else 9
theorem sgK_le (c : Nat) : sgK c < 6 ∨ sgK c = 9 := by
  unfold sgK
  (repeat' split) <;> omega
theorem sgS_K {tx : Nat → Int32} {n p : Nat} (hB : Byt tx) (hp : p ≤ n) : sgS tx (tkS tx n p) = if sgK (kd tx n p) < 9 then nI (sgK (kd tx n p)) else -1 := by
  unfold sgS
  rcases kd_cases (tx := tx) hp with h | h | h | h
  · rw [if_neg (by omega), h.2]; decide
  · have e : sgK (kd tx n p) = 9 := by
      unfold sgK
      rw [if_neg (by omega), if_neg (by omega), if_neg (by omega), if_neg (by omega), if_neg (by omega), if_neg (by omega)]
    rw [if_neg (by omega), e]; decide
  · rw [if_neg (by omega), h.2]; decide
  · obtain ⟨j, hj, e⟩ := inS_ex (hB (tkS tx n p).2.1)
    rw [if_pos h.1, h.2, e, show ix (nI j) = j from nI_clamp (by omega)]
    have : (List.range 256).all (fun j => decide (sgB (nI j) = if sgK (300 + j) < 9 then nI (sgK (300 + j)) else -1)) = true := by decide +kernel
    exact of_decide_eq_true (all_r this hj)
theorem s84n {d o a n p : Nat} {tx : Nat → Int32} {H h : Hp} {K : Int32 → Hp → Prop} (R : TkN H h o a n tx p) (hB : Byt tx) (k : K (if sgK (kd tx n p) < 9 then nI (sgK (kd tx n p)) else -1) h) : CI (d + 5) 84 [vR 9 (some o)] h K := s84 R.2.1 hB (by rw [sgS_K hB R.2.2]; exact k)
theorem s82m {d o a n p m : Nat} {tx : Nat → Int32} {H h : Hp} {K : Int32 → Hp → Prop} (R : TkN H h o a n tx p) (hm : m ≤ 4) (k : K (if nmN tx n m p < 10000 then nI (nmN tx n m p) else -1) h) : CI (d + 1) 82 [vR 9 (some o), vI (nI m)] h K := s82n R (by omega) (by rw [nmS_N hm]; exact k)
theorem np_gt {tx : Nat → Int32} {n p : Nat} (hp : p ≤ n) (h : ¬ kd tx n p = 200) : p < np tx n p := by
  have h0 : ¬ (tkS tx n p).1 = 0 := fun z => h ((kd_end hp).mpr z)
  have hs := scan_le isBl tx (n - p) p
  unfold np
  unfold tkS at h0 ⊢
  generalize scan isBl tx (n - p) p = s at h0 hs ⊢
  split
  · rename_i y; dsimp only; omega
  · rename_i y
    rw [if_neg y] at h0
    split
    · dsimp only; omega
    · rename_i y2
      rw [if_neg y2] at h0
      split
      · dsimp only; omega
      · rename_i y3
        rw [if_neg y3] at h0
        exact absurd rfl h0
/-! THE MEANING OF A TERM: brackets and signs, by a stack of waiting signs (9: a bracket) -/
def lvl (s : Nat) : Nat := if s < 2 then 1 else 2
def joiS (lv : Nat) : List Nat → List Nat → List Nat × List Nat
  | [], out => ([], out)
  | s :: S, out => if s = 9 ∨ (lv = 2 ∧ s < 2) then (s :: S, out) else joiS lv S (out ++ [20000 + s])
def yrd (nm kd np : Nat → Nat) : Nat → Bool → List Nat → Nat → List Nat → Nat → Option (List Nat) × Nat
  | 0, _, _, _, _, p => (none, p)
  | f + 1, true, S, o, out, p => if kd p = 340 then (if o = 9 then (none, p) else yrd nm kd np f true (9 :: S) (o + 1) out (np p)) else if nm p < 10000 then yrd nm kd np f false S o (out ++ [nm p]) (np p) else if 83 ≤ kd p ∧ kd p < 92 then yrd nm kd np f false S o (out ++ [10000 + (kd p - 83)]) (np p) else (none, p)
  | f + 1, false, S, o, out, p => if sgK (kd p) < 9 then yrd nm kd np f true (sgK (kd p) :: (joiS (lvl (sgK (kd p))) S out).1) o (joiS (lvl (sgK (kd p))) S out).2 (np p) else if kd p = 341 ∧ 0 < o then yrd nm kd np f false (joiS 1 S out).1.tail (o - 1) (joiS 1 S out).2 (np p) else if kd p = 359 ∧ o = 0 then (some (joiS 1 S out).2, p) else (none, p)
