/-! what the class's pen writes of a part, of a shield -/
theorem wd_at {n b o : Nat} (h : (List.range n).all (fun i => decide (wdI i 0 (romB b) = wdC (o + i))) = true) {i : Nat} (hi : i < n) : wdI i 0 (romB b) = wdC (o + i) := of_decide_eq_true (List.all_eq_true.mp h i (List.mem_range.mpr hi))
theorem wd_s : ((List.range 9).all (fun i => decide (wdI i 0 (romB 6) = wdC i)) = true) ∧ ((List.range 6).all (fun i => decide (wdI i 0 (romB 4) = wdC (70 + i))) = true) ∧ ((List.range 6).all (fun i => decide (wdI i 0 (romB 11) = wdC (54 + i))) = true) ∧ ((List.range 5).all (fun i => decide (wdI i 0 (romB 12) = wdC (60 + i))) = true) ∧ ((List.range 31).all (fun i => decide (wdI i 0 (romB 13) = wdC (9 + i))) = true) ∧ ((List.range 14).all (fun i => decide (wdI i 0 (romB 14) = wdC (40 + i))) = true) ∧ ((List.range 5).all (fun i => decide (wdI i 0 (romB 15) = wdC (65 + i))) = true) := by
  have h := wd_all
  simp only [Bool.and_eq_true] at h
  obtain ⟨⟨⟨⟨⟨⟨h1, h2⟩, h3⟩, h4⟩, h5⟩, h6⟩, h7⟩ := h
  exact ⟨h1, h2, h3, h4, h5, h6, h7⟩
theorem wd6 {i : Nat} (hi : i < 9) : wdI i 0 (romB 6) = wdC i := of_decide_eq_true (List.all_eq_true.mp wd_s.1 i (List.mem_range.mpr hi))
def lnC (p : Nat) : Nat := if p = 1 then 17 else if p = 2 then 18 else if p = 3 then 19 else if p = 4 then 20 else 22
def fT (p a b : Nat) : List Nat := (if p = 0 then [] else if p ≤ 5 then [70, lnC p] else [65 + p]) ++ a :: (if p = 0 then [] else [78, b])
def duT (r : Nat → Int32) : Nat → Nat → List Nat
  | 0, _ => []
  | m + 1, t => (if r (4 + t) = -1 then [] else [65 + t, ix (r (4 + t))]) ++ duT r m (t + 1)
def attT (w : Nat) : List Nat := if w = 0 then [] else [59 + w]
def nT (k m : Nat) : Nat := if m = 1 then 9 + k else 24 + k
def hT (pl : Nat) : List Nat := if pl = 1 ∨ pl = 4 then [79, 80] else [344]
def gT (pl : Nat) : List Nat := if pl = 5 then [76] else if pl = 6 then [77, 81] else []
/-- a group of charges behind its comma -/
def cT (r : Nat → Int32) : List Nat := (53 + ix (r 2)) :: nT (ix (r 0)) (ix (r 2)) :: (attT (ix (r 3)) ++ ix (r 1) :: duT r 5 0)
def pT (pl : Nat) (r : Nat → Int32) : List Nat := hT pl ++ (gT pl ++ cT r)
def paT (sh : Nat → Int32) : Nat → Nat → List Nat
  | 0, _ => []
  | m + 1, pl => (if sh (3 + 9 * pl) = 0 then [] else pT pl (fun i => sh (3 + 9 * pl + i))) ++ paT sh m (pl + 1)
def shT (sh : Nat → Int32) : List Nat := fT (ix (sh 0)) (ix (sh 1)) (ix (sh 2)) ++ paT sh 7 0
/-- what is written of a shield -/
def wrS (sh : Nat → Int32) : List Int32 := renC [] (shT sh)
/-- a shield's field -/
def FwV (sh : Nat → Int32) : Prop := ∃ p a b, p ≤ 10 ∧ sh 0 = nI p ∧ a < 9 ∧ sh 1 = nI a ∧ b < 9 ∧ ((p = 0 ∧ sh 2 = -1) ∨ (0 < p ∧ sh 2 = nI b))
theorem PtOK.eqX {X : Nat → Nat → Nat → Prop} {h0 h : Hp} {pt da pl : Nat} {r : Nat → Int32} (Q : PtOK h0 pt da pl r) (E : EqX X h0 h) (hX : ∀ a k, ¬ X 3 a k ∧ ¬ X 21 a k) : PtOK h pt da pl r := by
  obtain ⟨q0, q1, q2, q3, q4, q5, q6, q7⟩ := Q
  obtain ⟨e1, e2, e3, e4, e5, e6, e7⟩ := E
  refine ⟨?_, ?_, ?_, ?_, ?_, by rw [e3]; exact q5, by rw [e2]; exact q6, fun i hi => ?_⟩
  · rw [e7 3 pt 0 (hX pt 0).1]; exact q0
  · rw [e7 3 pt 1 (hX pt 1).1]; exact q1
  · rw [e7 3 pt 2 (hX pt 2).1]; exact q2
  · rw [e7 3 pt 3 (hX pt 3).1]; exact q3
  · rw [e7 3 pt 4 (hX pt 4).1]; exact q4
  · rw [e7 21 da i (hX da i).2]; exact q7 i hi
theorem xw3 (a k : Nat) : ¬ XW 3 a k ∧ ¬ XW 21 a k := by
  unfold XW
  refine ⟨fun z => ?_, fun z => ?_⟩
  · rcases z with z | z <;> exact absurd z.1 (by decide)
  · rcases z with z | z <;> exact absurd z.1 (by decide)
theorem WrC.pt {h0 h : Hp} {acc : List Int32} (W : WrC h0 h acc) {pt da pl : Nat} {r : Nat → Int32} (Q : PtOK h0 pt da pl r) : PtOK h pt da pl r := Q.eqX W.1 xw3
theorem ix_nI {j : Nat} (h : j < 2 ^ 31) : ix (nI j) = j := nI_clamp h
theorem p36 {d pt da pl : Nat} {r : Nat → Int32} {h0 : Hp} {K : Hp → Prop} {P : Nat → List AV → List AV → Hp → Prop} (hP : Cl (Call (d + 3)) 36 (fun v h' => v = none ∧ K h') P) (Q : PtOK h0 pt da pl r) (D : ∀ i, i < 5 → DuV (r (4 + i))) : ∀ (mm t : Nat) (acc : List Int32) (h : Hp), t + mm = 5 → WrC h0 h acc → (renC acc (duT r mm t)).length ≤ 256 → (∀ h', WrC h0 h' (renC acc (duT r mm t)) → K h') → P 2 [vR 4 (some 0), vR 3 (some pt), vI (nI t)] [] h
  | 0, t, acc, h, ht, W, hl, k => by
    have e : t = 5 := by omega
    subst e
    exact v36_2 hP 0 (some pt) (nI 5) h ⟨fun _ => ⟨rfl, k h W⟩, fun c => absurd (by decide) c⟩
  | mm + 1, t, acc, h, ht, W, hl, k => by
    have it : ix (nI t) = t := nI_clamp (by omega)
    obtain ⟨q0, q1, q2, q3, q4, q5, q6, q7⟩ := W.pt Q
    unfold duT at hl k
    rw [renC_app] at hl k
    refine v36_2 hP 0 (some pt) (nI t) h ⟨fun c => absurd c (nI_ge (b := 5) (by omega) (by omega)), fun _ => dr_of rfl (dr_of q5 ⟨by rw [q6]; exact vp_in_nI (by omega) (by decide), ?_⟩)⟩
    rw [it, q7 t (by omega)]
    refine ⟨fun c => ?_, fun c => ?_⟩
    · rw [if_pos c] at hl k
      rw [nI_1]
      exact p36 hP Q D mm (t + 1) acc h (by omega) W hl k
    · rw [if_neg c] at hl k
      obtain ⟨u, hu, eu⟩ : ∃ u, u < 9 ∧ r (4 + t) = nI u := by
        rcases D t (by omega) with z | z
        · exact absurd z c
        · exact z
      have iu : ix (r (4 + t)) = u := by rw [eu]; exact ix_nI (by omega)
      rw [iu] at hl k
      have hl2 : (putC (putC acc (65 + t)) u).length ≤ 256 := Nat.le_trans (renC_le _ _) hl
      refine s32 (c := 65 + t) W (wd_at wd_s.2.2.2.2.2.2 (by omega)) (by omega) (by omega) (Nat.le_trans (putC_le _ _) hl2) (fun h' W' => ?_)
      obtain ⟨p0, p1, p2, p3, p4, p5, p6, p7⟩ := W'.pt Q
      refine dr_of rfl (dr_of p5 ⟨by rw [p6]; exact vp_in_nI (by omega) (by decide), ?_⟩)
      rw [p7 t (by omega), eu]
      refine s32 (c := u) W' (wd6 hu) (by omega) (by omega) hl2 (fun h2 W2 => ?_)
      rw [nI_1]
      exact p36 hP Q D mm (t + 1) _ h2 (by omega) W2 hl k
theorem s36 {d pt da pl : Nat} {r : Nat → Int32} {acc : List Int32} {h0 h : Hp} {K : Hp → Prop} (W : WrC h0 h acc) (Q : PtOK h0 pt da pl r) (D : ∀ i, i < 5 → DuV (r (4 + i))) (hl : (renC acc (duT r 5 0)).length ≤ 256) (k : ∀ h', WrC h0 h' (renC acc (duT r 5 0)) → K h') : CV (d + 4) 36 [vR 4 (some 0), vR 3 (some pt)] h K := fun P hP => v36 hP 0 (some pt) h (p36 hP Q D 5 0 acc h rfl W hl k)
theorem nI_sub {a b : Nat} : nI (a + b) - nI b = nI a := by rw [← nI_add, Int32.add_sub_cancel]
/-- putPart(piece) -/
theorem s34 {d pt da pl : Nat} {r : Nat → Int32} {acc : List Int32} {h0 h : Hp} {K : Hp → Prop} (W : WrC h0 h acc) (Q : PtOK h0 pt da pl r) (V : PV pl r) (hpl : pl < 7) (hl : (renC acc (pT pl r)).length ≤ 256) (k : ∀ h', WrC h0 h' (renC acc (pT pl r)) → K h') : CV (d + 5) 34 [vR 4 (some 0), vR 3 (some pt)] h K := by
  intro P hP
  obtain ⟨kn, t, m, w, h0', h1, h2, h3, h4, h5, h6, h7, h8, h9⟩ := V
  have i0 : ix (r 0) = kn := by rw [h0']; exact ix_nI (by omega)
  have i1 : ix (r 1) = t := by rw [h1]; exact ix_nI (by omega)
  have i2 : ix (r 2) = m := by rw [h2]; exact ix_nI (by omega)
  have i3 : ix (r 3) = w := by rw [h3]; exact ix_nI (by omega)
  have kn30 : kn ≤ 30 ∧ (¬ m = 1 → 16 ≤ kn ∧ kn ≤ 29) := by omega
  have rd : ∀ {h acc}, WrC h0 h acc → jI h 3 pt 0 = nI pl ∧ jI h 3 pt 1 = nI kn ∧ jI h 3 pt 2 = nI m ∧ jI h 3 pt 3 = nI w ∧ jI h 3 pt 4 = nI t := by
    intro h acc W
    obtain ⟨q0, q1, q2, q3, q4, -⟩ := W.pt Q
    rw [h0'] at q1; rw [h1] at q4; rw [h2] at q2; rw [h3] at q3
    exact ⟨q0, q1, q2, q3, q4⟩
  unfold pT cT at hl k
  rw [i0, i1, i2, i3] at hl k
  -- the tail: tincture and duties
  have c116 : ∀ acc h, WrC h0 h acc → (renC acc (t :: duT r 5 0)).length ≤ 256 → (∀ h', WrC h0 h' (renC acc (t :: duT r 5 0)) → K h') → P 116 [vR 4 (some 0), vR 3 (some pt)] [] h := by
    intro acc h W hl k
    rw [renC_cons] at hl k
    refine v34_116 hP 0 (some pt) h (dr_of rfl ?_)
    rw [(rd W).2.2.2.2]
    exact s32 (c := t) W (wd6 h4) (by omega) (by omega) (Nat.le_trans (renC_le _ _) hl) (fun h' W' => s36 W' Q h8 hl (fun h2 W2 => ⟨rfl, k h2 W2⟩))
  have c80 : ∀ acc h, WrC h0 h acc → (renC acc ((53 + m) :: nT kn m :: (attT w ++ t :: duT r 5 0))).length ≤ 256 → (∀ h', WrC h0 h' (renC acc ((53 + m) :: nT kn m :: (attT w ++ t :: duT r 5 0))) → K h') → P 80 [vR 4 (some 0), vR 3 (some pt)] [] h := by
    intro acc h W hl k
    rw [renC_cons, renC_cons, renC_app] at hl k
    obtain ⟨m', rfl⟩ : ∃ m', m = m' + 1 := ⟨m - 1, by omega⟩
    have la : (putC (putC acc (53 + (m' + 1))) (nT kn (m' + 1))).length ≤ 256 := Nat.le_trans (renC_le _ _) (Nat.le_trans (renC_le _ _) hl)
    refine v34_80 hP 0 (some pt) h (dr_of rfl ?_)
    rw [(rd W).2.2.1, show nI (m' + 1) - 1 = nI m' from nI_sub]
    refine s32 (c := 53 + (m' + 1)) W (by rw [show 53 + (m' + 1) = 54 + m' by omega]; exact wd_at wd_s.2.2.1 (by omega)) (by omega) (by omega) (Nat.le_trans (putC_le _ _) la) (fun h' W' => ?_)
    have nm : CV (d + 4) 35 [vR 4 (some 0), vR 3 (some pt)] h' (fun h3 => dr (some pt) (fun a4 => (jI h3 3 a4 3 ≤ 0 → P 116 [vR 4 (some 0), vR 3 (some pt)] [] h3) ∧ (¬ jI h3 3 a4 3 ≤ 0 → dr (some pt) (fun a5 => CV (d + 4) 32 [vR 4 (some 0), vR 40 (some 12), vI ((jI h3 3 a5 3) - 1)] h3 (fun h6 => P 116 [vR 4 (some 0), vR 3 (some pt)] [] h6))))) := by
      have fin : ∀ h3, WrC h0 h3 (putC (putC acc (53 + (m' + 1))) (nT kn (m' + 1))) → (dr (some pt) (fun a4 => (jI h3 3 a4 3 ≤ 0 → P 116 [vR 4 (some 0), vR 3 (some pt)] [] h3) ∧ (¬ jI h3 3 a4 3 ≤ 0 → dr (some pt) (fun a5 => CV (d + 4) 32 [vR 4 (some 0), vR 40 (some 12), vI ((jI h3 3 a5 3) - 1)] h3 (fun h6 => P 116 [vR 4 (some 0), vR 3 (some pt)] [] h6))))) := by
        intro h3 W3
        refine dr_of rfl ?_
        simp only [dr_e]
        rw [(rd W3).2.2.2.1]
        by_cases z : w = 0
        · subst z
          exact ⟨fun _ => c116 _ _ W3 hl k, fun c => absurd (by decide) c⟩
        · obtain ⟨w', rfl⟩ : ∃ w', w = w' + 1 := ⟨w - 1, by omega⟩
          refine ⟨fun c => absurd c (nI_ge (a := 0) (by omega) (by omega)), fun _ => ?_⟩
          rw [show nI (w' + 1) - 1 = nI w' from nI_sub]
          unfold attT at hl k
          rw [if_neg z] at hl k
          exact s32 (c := 59 + (w' + 1)) W3 (by rw [show 59 + (w' + 1) = 60 + w' by omega]; exact wd_at wd_s.2.2.2.1 (by omega)) (by omega) (by omega) (Nat.le_trans (renC_le (t :: duT r 5 0) _) hl) (fun h6 W6 => c116 _ _ W6 hl k)
      intro P' hP'
      refine v35 hP' 0 (some pt) h' (dr_of rfl ?_)
      simp only [dr_e]
      rw [(rd W').2.2.1, (rd W').2.1]
      unfold nT at la fin
      by_cases z : m' + 1 = 1
      · rw [if_pos z] at la fin
        refine ⟨fun c => absurd (by rw [z]; decide) c, fun _ => s32 (c := 9 + kn) W' (wd_at wd_s.2.2.2.2.1 (by omega)) (by omega) (by omega) la (fun h3 W3 => ⟨trivial, fin h3 W3⟩)⟩
      · rw [if_neg z] at la fin
        obtain ⟨q, rfl⟩ : ∃ q, kn = q + 16 := ⟨kn - 16, by have := kn30.2 z; omega⟩
        refine ⟨fun _ => ?_, fun c => absurd (fun e => z ((nI_eq (b := 1) (by omega) (by decide)).mp e)) c⟩
        rw [show nI (q + 16) - 16 = nI q from nI_sub]
        exact s32 (c := 24 + (q + 16)) W' (by rw [show 24 + (q + 16) = 40 + q by omega]; exact wd_at wd_s.2.2.2.2.2.1 (by have := kn30.2 z; omega)) (by omega) (by omega) la (fun h3 W3 => ⟨trivial, fin h3 W3⟩)
    exact nm
  have c39 : ∀ acc h, WrC h0 h acc → (renC acc (gT pl ++ ((53 + m) :: nT kn m :: (attT w ++ t :: duT r 5 0)))).length ≤ 256 → (∀ h', WrC h0 h' (renC acc (gT pl ++ ((53 + m) :: nT kn m :: (attT w ++ t :: duT r 5 0)))) → K h') → P 39 [vR 4 (some 0), vR 3 (some pt)] [] h := by
    intro acc h W hl k
    rw [renC_app] at hl k
    refine v34_39 hP 0 (some pt) h (dr_of rfl ?_)
    simp only [dr_e]
    rw [(rd W).1]
    unfold gT at hl k
    by_cases z : pl = 5
    · subst z
      refine ⟨fun c => absurd (by decide) c, fun _ => s32 (i := 0) (c := 76) W wd_one.2.2.2.1 (by decide) (by decide) (Nat.le_trans (renC_le _ _) hl) (fun h' W' => c80 _ _ W' hl k)⟩
    · rw [if_neg z] at hl k
      refine ⟨fun _ => ?_, fun c => absurd (fun e => z ((nI_eq (b := 5) (by omega) (by decide)).mp e)) c⟩
      by_cases z6 : pl = 6
      · subst z6
        rw [if_pos rfl] at hl k
        have lb : (putC (putC acc 77) 81).length ≤ 256 := Nat.le_trans (renC_le _ _) hl
        exact ⟨fun c => absurd (by decide) c, fun _ => s32 (i := 0) (c := 77) W wd_one.2.2.2.2.1 (by decide) (by decide) (Nat.le_trans (putC_le _ _) lb) (fun h' W' => s32 (i := 1) (c := 81) W' wd_one.2.2.2.2.2.1 (by decide) (by decide) lb (fun h2 W2 => c80 _ _ W2 hl k))⟩
      · rw [if_neg z6] at hl k
        exact ⟨fun _ => c80 _ _ W hl k, fun c => absurd (fun e => z6 ((nI_eq (b := 6) (by omega) (by decide)).mp e)) c⟩
  rw [renC_app] at hl k
  unfold hT at hl k
  have c16 : (pl = 1 ∨ pl = 4) → P 16 [vR 4 (some 0), vR 3 (some pt)] [] h := by
    intro z
    rw [if_pos z] at hl k
    have lb : (putC (putC acc 79) 80).length ≤ 256 := Nat.le_trans (renC_le _ _) hl
    exact v34_16 hP 0 (some pt) h (s32 (i := 0) (c := 79) W wd_one.2.1 (by decide) (by decide) (Nat.le_trans (putC_le _ _) lb) (fun h' W' => s32 (i := 1) (c := 80) W' wd_one.2.2.1 (by decide) (by decide) lb (fun h2 W2 => c39 _ _ W2 hl k)))
  refine v34 hP 0 (some pt) h (dr_of rfl ?_)
  simp only [dr_e]
  rw [(rd W).1]
  refine ⟨fun c => c16 (Or.inl ((nI_eq (b := 1) (by omega) (by decide)).mp c)), fun c1 => ⟨fun c4 => ?_, fun c4 => c16 (Or.inr ((nI_eq (b := 4) (by omega) (by decide)).mp (Classical.not_not.mp c4)))⟩⟩
  have z : ¬ (pl = 1 ∨ pl = 4) := by
    intro z
    rcases z with z | z
    · exact c1 (by rw [z]; rfl)
    · exact c4 (by rw [z]; rfl)
  rw [if_neg z] at hl k
  exact s33c W (Nat.le_trans (renC_le _ _) hl) (fun h' W' => c39 _ _ W' hl k)
