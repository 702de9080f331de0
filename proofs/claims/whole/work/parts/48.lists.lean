/-! the class's lists of words, over codes -/
theorem aT {b : Nat} {f : Nat → Int32} (hb : b < 32) (h : (List.range 92).all (fun c => decide (amT b c = f c)) = true) (h2 : ∀ c, 92 ≤ c → f c = -1) (c : Nat) : amT b c = f c := by
  rcases Nat.lt_or_ge c 92 with z | z
  · exact of_decide_eq_true (all_r h z)
  · rw [amT_big hb z, h2 c z]
def oneS (c0 c : Nat) : Int32 := if c = c0 then 0 else -1
def rngS (lo hi c : Nat) : Int32 := if lo ≤ c ∧ c < hi then nI (c - lo) else -1
def opS (c : Nat) : Int32 := if 54 ≤ c ∧ c < 60 then nI (c - 54) else if c = 76 then 6 else if c = 77 then 7 else -1
def mkS (c : Nat) : Int32 := if c = 39 then 0 else if c = 34 then 1 else if c = 33 then 2 else if c = 29 then 3 else if c = 35 then 4 else if c = 31 then 5 else if c = 30 then 6 else -1
def lniS (c : Nat) : Int32 := if lnS c = 0 then -1 else nI (lnS c - 1)
theorem one_b {c0 : Nat} (h : c0 < 92) : ∀ c, 92 ≤ c → oneS c0 c = -1 := fun c hc => if_neg (by omega)
theorem rng_b {lo hi : Nat} (h : hi ≤ 92) : ∀ c, 92 ≤ c → rngS lo hi c = -1 := fun c hc => if_neg (by omega)
theorem aT17 : ∀ c, amT 17 c = tiS c := aT (by decide) (by decide +kernel) (fun c hc => if_neg (by omega))
theorem aT16 : ∀ c, amT 16 c = rngS 70 76 c := aT (by decide) (by decide +kernel) (rng_b (by decide))
theorem aT18 : ∀ c, amT 18 c = lniS c := aT (by decide) (by decide +kernel) (fun c hc => by
  unfold lniS
  rw [if_pos (by unfold lnS; (repeat' split) <;> omega)])
theorem aT19 : ∀ c, amT 19 c = oneS 78 c := aT (by decide) (by decide +kernel) (one_b (by decide))
theorem aT20 : ∀ c, amT 20 c = oneS 79 c := aT (by decide) (by decide +kernel) (one_b (by decide))
theorem aT21 : ∀ c, amT 21 c = opS c := aT (by decide) (by decide +kernel) (fun c hc => by
  unfold opS
  rw [if_neg (by omega), if_neg (by omega), if_neg (by omega)])
theorem aT22 : ∀ c, amT 22 c = kiS c := aT (by decide) (by decide +kernel) (fun c hc => if_neg (by omega))
theorem aT23 : ∀ c, amT 23 c = oneS 80 c := aT (by decide) (by decide +kernel) (one_b (by decide))
theorem aT24 : ∀ c, amT 24 c = rngS 54 60 c := aT (by decide) (by decide +kernel) (rng_b (by decide))
theorem aT25 : ∀ c, amT 25 c = oneS 54 c := aT (by decide) (by decide +kernel) (one_b (by decide))
theorem aT26 : ∀ c, amT 26 c = oneS 24 c := aT (by decide) (by decide +kernel) (one_b (by decide))
theorem aT27 : ∀ c, amT 27 c = oneS 81 c := aT (by decide) (by decide +kernel) (one_b (by decide))
theorem aT28 : ∀ c, amT 28 c = mkS c := aT (by decide) (by decide +kernel) (fun c hc => by
  unfold mkS
  rw [if_neg (by omega), if_neg (by omega), if_neg (by omega), if_neg (by omega), if_neg (by omega), if_neg (by omega), if_neg (by omega)])
theorem aT29 : ∀ c, amT 29 c = rngS 40 54 c := aT (by decide) (by decide +kernel) (rng_b (by decide))
theorem aT30 : ∀ c, amT 30 c = rngS 60 65 c := aT (by decide) (by decide +kernel) (rng_b (by decide))
theorem aT31 : ∀ c, amT 31 c = rngS 65 70 c := aT (by decide) (by decide +kernel) (rng_b (by decide))
theorem aT0 : ∀ c, amT 0 c = oneS 82 c := aT (by decide) (by decide +kernel) (one_b (by decide))
theorem aT1 : ∀ c, amT 1 c = oneS 77 c := aT (by decide) (by decide +kernel) (one_b (by decide))
theorem aT2 : ∀ c, amT 2 c = kiS c := aT (by decide) (by decide +kernel) (fun c hc => if_neg (by omega))
theorem aT3 : ∀ c, amT 3 c = rngS 83 92 c := aT (by decide) (by decide +kernel) (rng_b (by decide))
/-- take(TINCTURES) -/
theorem s80t {d o a n p : Nat} {tx : Nat → Int32} {H h : Hp} {K : Int32 → Hp → Prop} (R : TkN H h o a n tx p) (k0 : ¬ kd tx n p < 9 → K (-1) h) (k1 : kd tx n p < 9 → ∀ h', TkN H h' o a n tx (np tx n p) → K (nI (kd tx n p)) h') : CI (d + 4) 80 [vR 9 (some o), vR 40 (some 17)] h K := by
  have e := aT17 (kd tx n p)
  unfold tiS at e
  refine s80n R (by decide) (fun c => k0 (fun z => ?_)) (fun c h' R' => ?_)
  · rw [e, if_pos z] at c
    exact nI_m1 (by omega) c
  · have z : kd tx n p < 9 := by
      rcases Nat.lt_or_ge (kd tx n p) 9 with y | y
      · exact y
      · rw [e, if_neg (by omega)] at c
        exact absurd rfl c
    rw [e, if_pos z]
    exact k1 z h' R'
/-- takeWord of a list of one word -/
theorem s79w {d o a n p b c0 : Nat} {tx : Nat → Int32} {H h : Hp} {K : Int32 → Hp → Prop} (hb : b < 32) (hw : ∀ c, amT b c = oneS c0 c) (R : TkN H h o a n tx p) (k0 : ¬ kd tx n p = c0 → K 0 h) (k1 : kd tx n p = c0 → ∀ h', TkN H h' o a n tx (np tx n p) → K 1 h') : CI (d + 5) 79 [vR 9 (some o), vR 40 (some b)] h K := by
  have e := hw (kd tx n p)
  unfold oneS at e
  refine s79n R hb (fun c => k0 (fun z => ?_)) (fun c h' R' => ?_)
  · rw [e, if_pos z] at c
    exact absurd c (by decide)
  · refine k1 ?_ h' R'
    rcases Nat.decEq (kd tx n p) c0 with y | y
    · rw [e, if_neg y] at c
      exact absurd rfl c
    · exact y
/-- the three cells of a shield's field -/
def shH (G : Hp) (s : Nat) (x y z : Int32) : Hp := wI (wI (wI G 7 s 0 x) 7 s 1 y) 7 s 2 z
theorem shH_w0 (G : Hp) (s : Nat) (x y z v : Int32) : wI (shH G s x y z) 7 s 0 v = shH G s v y z := by
  unfold shH
  rw [wI_comm _ _ _ _ _ _ _ (by decide : (2 : Nat) ≠ 0), wI_comm _ _ _ _ _ _ _ (by decide : (1 : Nat) ≠ 0), wI_wI]
theorem shH_w1 (G : Hp) (s : Nat) (x y z v : Int32) : wI (shH G s x y z) 7 s 1 v = shH G s x v z := by
  unfold shH
  rw [wI_comm _ _ _ _ _ _ _ (by decide : (2 : Nat) ≠ 1), wI_wI]
theorem shH_w2 (G : Hp) (s : Nat) (x y z v : Int32) : wI (shH G s x y z) 7 s 2 v = shH G s x y v := by
  unfold shH
  rw [wI_wI]
theorem shH_r0 (G : Hp) (s : Nat) (x y z : Int32) : jI (shH G s x y z) 7 s 0 = x := by
  unfold shH
  rw [jI_k (by decide), jI_k (by decide)]; exact jI_same _ _ _ _ _
theorem shH_r1 (G : Hp) (s : Nat) (x y z : Int32) : jI (shH G s x y z) 7 s 1 = y := by
  unfold shH
  rw [jI_k (by decide)]; exact jI_same _ _ _ _ _
theorem shH_r2 (G : Hp) (s : Nat) (x y z : Int32) : jI (shH G s x y z) 7 s 2 = z := jI_same _ _ _ _ _
