/-! the reference at token p: its words, its bytes -/
theorem scan_all {f : Int32 → Bool} {tx : Nat → Int32} : ∀ {k s j : Nat}, s ≤ j → j < scan f tx k s → f (tx j) = true
  | 0, s, j, h1, h2 => by
    have h2 : j < s := h2
    omega
  | k + 1, s, j, h1, h2 => by
    unfold scan at h2
    cases hf : f (tx s) with
    | false =>
      rw [hf] at h2
      have h2 : j < s := h2
      omega
    | true =>
      rw [hf] at h2
      by_cases z : j = s
      · rw [z]; exact hf
      · exact scan_all (k := k) (s := s + 1) (by omega) h2
theorem tkS_word {tx : Nat → Int32} {n p : Nat} (h : (tkS tx n p).1 = 1) : ∀ j, j < (tkS tx n p).2.2 - (tkS tx n p).2.1 → inS 97 122 (tx ((tkS tx n p).2.1 + j)) = true := by
  unfold tkS at h ⊢
  generalize scan isBl tx (n - p) p = s at h ⊢
  by_cases y : s < scan (inS 97 122) tx (n - s) s
  · rw [if_pos y]
    intro j hj
    have hj : j < scan (inS 97 122) tx (n - s) s - s := hj
    exact scan_all (k := n - s) (s := s) (by dsimp only; omega) (by dsimp only; omega)
  · rw [if_neg y] at h
    split at h
    · exact absurd h (by decide : ¬ (2 : Nat) = 1)
    · split at h
      · exact absurd h (by decide : ¬ (3 : Nat) = 1)
      · exact absurd h (by decide : ¬ (0 : Nat) = 1)
/-- the code of the token at p, its start, its end -/
def kd (tx : Nat → Int32) (n p : Nat) : Nat := kdQ tx (tkS tx n p)
def sp (tx : Nat → Int32) (n p : Nat) : Nat := (tkS tx n p).2.1
def np (tx : Nat → Int32) (n p : Nat) : Nat := (tkS tx n p).2.2
theorem np_le {tx : Nat → Int32} {n p : Nat} (hp : p ≤ n) : np tx n p ≤ n := (tkS_ok hp).2.1
def RtAt (h : Hp) (o a n : Nat) (tx : Nat → Int32) (p : Nat) : Prop := RtX h o a n tx ∧ p ≤ n ∧ RtV tx (tkS tx n p) (jI h 11 o 5) (jI h 11 o 7) (jI h 11 o 4) (jI h 11 o 6) (jI h 11 o 10) (jL h 11 o 8) (jL h 11 o 9)
theorem cdW_le (w : List Int32) : cdW w ≤ 92 := by
  by_cases h : w ∈ VOC
  · have := (cdW_in h).1; omega
  · rw [cdW_out h]; exact Nat.le_refl _
theorem gdB_119 (c : Int32) : ¬ gdB c = 119 := by
  unfold gdB
  intro h
  split at h
  · rename_i z
    subst h
    exact absurd z (by decide)
  · exact absurd h (by decide)
/-- is the token the word with code i? -/
theorem rt_word {h : Hp} {o a n p i : Nat} {tx : Nat → Int32} (R : RtAt h o a n tx p) (hi : i < 92) : (jI h 11 o 4 = 119 ∧ jL h 11 o 8 = hdW (VOC.getD i []) ∧ jL h 11 o 9 = tlW (VOC.getD i [])) ↔ kd tx n p = i := by
  obtain ⟨T, hp, r1, r2, r3, r4, r5, r6⟩ := R
  have hk := tkS_ok (tx := tx) hp
  have hw := tkS_word (tx := tx) (n := n) (p := p)
  unfold kd kdQ
  generalize tkS tx n p = q at r1 r2 r3 r4 r5 r6 hk hw ⊢
  by_cases h1 : q.1 = 1
  · rw [if_pos h1]
    obtain ⟨t1, t2, t3⟩ := r4 h1
    have hl := wdG_ltr (hw h1)
    have hlen := wdG_len tx (q.2.2 - q.2.1) q.2.1
    by_cases z : q.2.2 - q.2.1 ≤ 12
    · rw [if_pos z] at t1
      have hx := hdX_W (hw h1) (by omega)
      rw [t1, t2, t3, hx.1, hx.2]
      exact ⟨fun e => (cdW_hd hl (by omega) hi).mp e.2, fun e => ⟨rfl, (cdW_hd hl (by omega) hi).mpr e⟩⟩
    · rw [if_neg z] at t1
      refine ⟨fun e => absurd (t1.symm.trans e.1) (by decide), fun e => ?_⟩
      by_cases y : wdG tx (q.2.2 - q.2.1) q.2.1 ∈ VOC
      · have := (voc_l y).2
        omega
      · have := cdW_out y
        omega
  · rw [if_neg h1]
    refine ⟨fun e => ?_, fun e => ?_⟩
    · have e := e.1
      by_cases h0 : q.1 = 0
      · rw [r3 h0] at e; exact absurd e (by decide)
      · by_cases h2 : q.1 = 2
        · rw [(r5 h2).1] at e
          split at e
          · exact absurd e (by decide)
          · exact absurd e (by decide)
        · rw [r6 (by omega)] at e
          exact absurd e (gdB_119 _)
    · split at e
      · omega
      · split at e
        · omega
        · omega
/-- a word of the reference: at most 8 letters -/
def isW (i : Nat) (L : Int64) : Bool := decide (i < 92) && decide (hdW (VOC.getD i []) = L) && decide (tlW (VOC.getD i []) = 0)
theorem s133 {d o a n p i : Nat} {tx : Nat → Int32} {L : Int64} {h : Hp} {K : Int32 → Hp → Prop} (R : RtAt h o a n tx p) (hL : isW i L = true) (k : K (bi (decide (kd tx n p = i))) h) : CI (d + 1) 133 [vR 11 (some o), vL L] h K := by
  unfold isW at hL
  simp only [Bool.and_eq_true, decide_eq_true_eq] at hL
  obtain ⟨⟨h1, h2⟩, h3⟩ := hL
  have hw := rt_word R h1
  rw [h2, h3] at hw
  intro P hP
  have no : ¬ (jI h 11 o 4 = 119 ∧ jL h 11 o 8 = L ∧ jL h 11 o 9 = 0) → K 0 h := by
    intro z
    rw [decide_eq_false (fun y => z (hw.mpr y))] at k
    exact k
  refine v133 hP o L h ⟨fun c => ⟨_, rfl, no (fun z => c z.1)⟩, fun c => ⟨fun c2 => ⟨_, rfl, no (fun z => c2 ((lg_cmp_eq _ _).mpr z.2.2))⟩, fun c2 => ⟨fun c3 => ⟨_, rfl, no (fun z => c3 ((lg_cmp_eq _ _).mpr z.2.1))⟩, fun c3 => ⟨_, rfl, ?_⟩⟩⟩⟩
  rw [decide_eq_true (hw.mp ⟨Classical.not_not.mp c, (lg_cmp_eq _ _).mp (Classical.not_not.mp c3), (lg_cmp_eq _ _).mp (Classical.not_not.mp c2)⟩)] at k
  exact k
/-- the rest of a heap behind the reference's token fields -/
def RtN (H h : Hp) (o a n : Nat) (tx : Nat → Int32) (p : Nat) : Prop := (∃ b vl t x dg hd tl, h = rtH H o b vl t x dg hd tl) ∧ RtAt h o a n tx p
theorem rtH_r (H : Hp) (o : Nat) (b vl t x dg : Int32) (hd tl : Int64) : jI (rtH H o b vl t x dg hd tl) 11 o 5 = b ∧ jI (rtH H o b vl t x dg hd tl) 11 o 7 = vl ∧ jI (rtH H o b vl t x dg hd tl) 11 o 4 = t ∧ jI (rtH H o b vl t x dg hd tl) 11 o 6 = x ∧ jI (rtH H o b vl t x dg hd tl) 11 o 10 = dg ∧ jL (rtH H o b vl t x dg hd tl) 11 o 8 = hd ∧ jL (rtH H o b vl t x dg hd tl) 11 o 9 = tl := by
  refine ⟨?_, ?_, ?_, ?_, ?_, rtL_j8 _ _ _ _, rtL_j9 _ _ _ _⟩
  · show jI (wI (wI (wI (wI (wI H 11 o 5 b) 11 o 7 vl) 11 o 4 t) 11 o 6 x) 11 o 10 dg) 11 o 5 = b
    rw [jI_k (by decide), jI_k (by decide), jI_k (by decide), jI_k (by decide)]; exact jI_same _ _ _ _ _
  · show jI (wI (wI (wI (wI (wI H 11 o 5 b) 11 o 7 vl) 11 o 4 t) 11 o 6 x) 11 o 10 dg) 11 o 7 = vl
    rw [jI_k (by decide), jI_k (by decide), jI_k (by decide)]; exact jI_same _ _ _ _ _
  · show jI (wI (wI (wI (wI (wI H 11 o 5 b) 11 o 7 vl) 11 o 4 t) 11 o 6 x) 11 o 10 dg) 11 o 4 = t
    rw [jI_k (by decide), jI_k (by decide)]; exact jI_same _ _ _ _ _
  · show jI (wI (wI (wI (wI (wI H 11 o 5 b) 11 o 7 vl) 11 o 4 t) 11 o 6 x) 11 o 10 dg) 11 o 6 = x
    rw [jI_k (by decide)]; exact jI_same _ _ _ _ _
  · exact jI_same _ _ _ _ _
theorem rtH_X {h : Hp} {o a n : Nat} {tx : Nat → Int32} {b vl t x dg : Int32} {hd tl : Int64} (T : RtX h o a n tx) : RtX (rtH h o b vl t x dg hd tl) o a n tx :=
  ((((T.wI (k := 5) (v := b) (by decide)).wI (k := 7) (v := vl) (by decide)).wI (k := 4) (v := t) (by decide)).wI (k := 6) (v := x) (by decide)).wI (k := 10) (v := dg) (by decide)
theorem up5 (f : Nat → Nat → Nat → Int32) (o : Nat) (b vl t x dg b' vl' t' x' dg' : Int32) : up3 (up3 (up3 (up3 (up3 (up3 (up3 (up3 (up3 (up3 f 11 o 5 b) 11 o 7 vl) 11 o 4 t) 11 o 6 x) 11 o 10 dg) 11 o 5 b') 11 o 7 vl') 11 o 4 t') 11 o 6 x') 11 o 10 dg' = up3 (up3 (up3 (up3 (up3 f 11 o 5 b') 11 o 7 vl') 11 o 4 t') 11 o 6 x') 11 o 10 dg' := by
  funext r a k
  unfold up3
  by_cases h10 : r = 11 ∧ a = o ∧ k = 10
  · simp only [if_pos h10]
  · by_cases h6 : r = 11 ∧ a = o ∧ k = 6
    · simp only [if_neg h10, if_pos h6]
    · by_cases h4 : r = 11 ∧ a = o ∧ k = 4
      · simp only [if_neg h10, if_neg h6, if_pos h4]
      · by_cases h7 : r = 11 ∧ a = o ∧ k = 7
        · simp only [if_neg h10, if_neg h6, if_neg h4, if_pos h7]
        · by_cases h5 : r = 11 ∧ a = o ∧ k = 5
          · simp only [if_neg h10, if_neg h6, if_neg h4, if_neg h7, if_pos h5]
          · simp only [if_neg h10, if_neg h6, if_neg h4, if_neg h7, if_neg h5]
theorem Hp_ext {h g : Hp} (e1 : jN h = jN g) (e2 : jLen h = jLen g) (e3 : jI h = jI g) (e4 : jL h = jL g) (e5 : jR h = jR g) (e6 : jC h = jC g) (e7 : jZ h = jZ g) : h = g := by
  obtain ⟨h1, h2, h3, h4, h5, h6, h7⟩ := h
  obtain ⟨g1, g2, g3, g4, g5, g6, g7⟩ := g
  have e1 : h1 = g1 := e1
  have e2 : h2 = g2 := e2
  have e3 : h3 = g3 := e3
  have e4 : h4 = g4 := e4
  have e5 : h5 = g5 := e5
  have e6 : h6 = g6 := e6
  have e7 : h7 = g7 := e7
  rw [e1, e2, e3, e4, e5, e6, e7]
theorem I_wI (h : Hp) (t a k : Nat) (v : Int32) : jI (wI h t a k v) = up3 (jI h) t a k v := rfl
theorem I_wL (h : Hp) (t a k : Nat) (v : Int64) : jI (wL h t a k v) = jI h := rfl
theorem L_wI (h : Hp) (t a k : Nat) (v : Int32) : jL (wI h t a k v) = jL h := rfl
theorem L_wL (h : Hp) (t a k : Nat) (v : Int64) : jL (wL h t a k v) = up3 (jL h) t a k v := rfl
theorem rtH_I (H : Hp) (o : Nat) (b vl t x dg : Int32) (hd tl : Int64) : jI (rtH H o b vl t x dg hd tl) = up3 (up3 (up3 (up3 (up3 (jI H) 11 o 5 b) 11 o 7 vl) 11 o 4 t) 11 o 6 x) 11 o 10 dg := rfl
theorem rtH_L (H : Hp) (o : Nat) (b vl t x dg : Int32) (hd tl : Int64) : jL (rtH H o b vl t x dg hd tl) = up3 (up3 (jL H) 11 o 8 hd) 11 o 9 tl := rfl
theorem rtH_rtH (H : Hp) (o : Nat) (b vl t x dg b' vl' t' x' dg' : Int32) (hd tl hd' tl' : Int64) : rtH (rtH H o b vl t x dg hd tl) o b' vl' t' x' dg' hd' tl' = rtH H o b' vl' t' x' dg' hd' tl' := by
  refine Hp_ext rfl rfl ?_ ?_ rfl rfl rfl
  · rw [rtH_I, rtH_I, rtH_I, up5]
  · rw [rtH_L, rtH_L, rtH_L, up3_comm _ 11 o 9 8 tl hd' (by decide), up3_up3, up3_up3]
theorem s125n {d o a n p : Nat} {tx : Nat → Int32} {H h : Hp} {K : Hp → Prop} (R : RtN H h o a n tx p) (k : ∀ h', RtN H h' o a n tx (np tx n p) → K h') : CV (d + 2) 125 [vR 11 (some o)] h K := by
  obtain ⟨⟨b0, vl0, t0, x0, dg0, hd0, tl0, e⟩, R⟩ := R
  have hnp := np_le (tx := tx) R.2.1
  refine s125 R.1 R.2.2.2.1 hnp (fun b vl t x dg hd tl hv => k _ ⟨⟨b, vl, t, x, dg, hd, tl, ?_⟩, ?_⟩)
  · rw [e, rtH_rtH]
  · obtain ⟨e1, e2, e3, e4, e5, e6, e7⟩ := rtH_r h o b vl t x dg hd tl
    refine ⟨rtH_X R.1, hnp, ?_⟩
    rw [e1, e2, e3, e4, e5, e6, e7]
    exact hv
theorem bi0 {p : Prop} [Decidable p] : (bi (decide p) = 0) ↔ ¬ p := by
  by_cases z : p
  · rw [decide_eq_true z]; exact ⟨fun e => absurd e (by decide), fun e => absurd z e⟩
  · rw [decide_eq_false z]; exact ⟨fun _ => z, fun _ => rfl⟩
theorem s134 {d o a n p i : Nat} {tx : Nat → Int32} {L : Int64} {H h : Hp} {K : Int32 → Hp → Prop} (R : RtN H h o a n tx p) (hL : isW i L = true) (k1 : kd tx n p = i → ∀ h', RtN H h' o a n tx (np tx n p) → K 1 h') (k0 : ¬ kd tx n p = i → K 0 h) : CI (d + 3) 134 [vR 11 (some o), vL L] h K := by
  intro P hP
  refine v134 hP o L h (s133 R.2 hL ⟨fun c => ?_, fun c => ⟨_, rfl, k0 (bi0.mp (Classical.not_not.mp c))⟩⟩)
  have z : kd tx n p = i := Classical.not_not.mp (fun y => c (bi0.mpr y))
  exact s125n R (fun h' R' => ⟨_, rfl, k1 z h' R'⟩)
