/-! the class's pen: a whole shield -/
theorem xw7 (a k : Nat) : ¬ XW 7 a k ∧ ¬ XW 33 a k := by
  unfold XW
  refine ⟨fun z => ?_, fun z => ?_⟩
  · rcases z with z | z <;> exact absurd z.1 (by decide)
  · rcases z with z | z <;> exact absurd z.1 (by decide)
theorem WrC.sh {h0 h : Hp} {acc : List Int32} (W : WrC h0 h acc) {s pa : Nat} {sh : Nat → Int32} (Q : ShOK h0 s pa sh) : ShOK h s pa sh := Q.fr W.1.fr ⟨fun a k => (xw3 a k).1, fun a k _ => (xw3 a k).2, fun k _ => (xw7 s k).1, fun k => (xw7 pa k).2⟩
theorem wd_ln {p : Nat} (h1 : 1 ≤ p) (h5 : p ≤ 5) : wdI (p - 1) 0 (romB 5) = wdC (lnC p) := by
  have hc : p = 1 ∨ p = 2 ∨ p = 3 ∨ p = 4 ∨ p = 5 := by omega
  obtain ⟨-, -, -, -, -, -, w1, w2, w3, w4, w5⟩ := wd_one
  rcases hc with rfl | rfl | rfl | rfl | rfl
  · exact w1
  · exact w2
  · exact w3
  · exact w4
  · exact w5
theorem lnC_ne (p : Nat) : ¬ lnC p = 344 := by
  unfold lnC
  repeat' split
  all_goals decide
/-- putField(shield) -/
theorem s31 {d s pa : Nat} {sh : Nat → Int32} {acc : List Int32} {h0 h : Hp} {K : Hp → Prop} (W : WrC h0 h acc) (Q : ShOK h0 s pa sh) (V : FwV sh) (hl : (renC acc (fT (ix (sh 0)) (ix (sh 1)) (ix (sh 2)))).length ≤ 256) (k : ∀ h', WrC h0 h' (renC acc (fT (ix (sh 0)) (ix (sh 1)) (ix (sh 2)))) → K h') : CV (d + 4) 31 [vR 4 (some 0), vR 7 (some s)] h K := by
  intro P hP
  obtain ⟨p, a, b, hp, e0, ha, e1, hb, e2⟩ := V
  have i0 : ix (sh 0) = p := by rw [e0]; exact ix_nI (by omega)
  have i1 : ix (sh 1) = a := by rw [e1]; exact ix_nI (by omega)
  have rd : ∀ {h acc}, WrC h0 h acc → jI h 7 s 0 = nI p ∧ jI h 7 s 1 = nI a ∧ jI h 7 s 2 = sh 2 := by
    intro h acc W
    have Q' := W.sh Q
    exact ⟨by rw [Q'.2.2.1]; exact e0, by rw [Q'.2.2.2.1]; exact e1, Q'.2.2.2.2.1⟩
  rw [i0, i1] at hl k
  unfold fT at hl k
  have tail : 0 < p → ∀ acc h, WrC h0 h acc → (renC acc [78, ix (sh 2)]).length ≤ 256 → (∀ h', WrC h0 h' (renC acc [78, ix (sh 2)]) → K h') → CV (d + 3) 32 [vR 4 (some 0), vR 40 (some 7), vI 0] h (fun h6 => dr (some s) (fun a7 => CV (d + 3) 32 [vR 4 (some 0), vR 40 (some 6), vI (jI h6 7 a7 2)] h6 (fun h8 => none = (none : Option AV) ∧ K h8))) := by
    intro hp0 acc h W hl k
    have e2 : sh 2 = nI b := by
      rcases e2 with z | z
      · omega
      · exact z.2
    have i2 : ix (sh 2) = b := by rw [e2]; exact ix_nI (by omega)
    rw [i2] at hl k
    refine s32 (i := 0) (c := 78) W wd_one.1 (by decide) (by decide) (Nat.le_trans (putC_le _ _) hl) (fun h' W' => dr_of rfl ?_)
    rw [(rd W').2.2, e2]
    exact s32 (c := b) W' (wd6 hb) (by omega) (by omega) hl (fun h2 W2 => ⟨rfl, k h2 W2⟩)
  have first : ∀ acc h, WrC h0 h acc → (renC acc (a :: (if p = 0 then [] else [78, ix (sh 2)]))).length ≤ 256 → (∀ h', WrC h0 h' (renC acc (a :: (if p = 0 then [] else [78, ix (sh 2)]))) → K h') → CV (d + 3) 32 [vR 4 (some 0), vR 40 (some 6), vI (jI h 7 s 1)] h (fun h4 => dr (some s) (fun a5 => (jI h4 7 a5 0 ≤ 0 → none = (none : Option AV) ∧ K h4) ∧ (¬ jI h4 7 a5 0 ≤ 0 → CV (d + 3) 32 [vR 4 (some 0), vR 40 (some 7), vI 0] h4 (fun h6 => dr (some s) (fun a7 => CV (d + 3) 32 [vR 4 (some 0), vR 40 (some 6), vI (jI h6 7 a7 2)] h6 (fun h8 => none = (none : Option AV) ∧ K h8)))))) := by
    intro acc h W hl k
    rw [(rd W).2.1]
    rw [renC_cons] at hl k
    refine s32 (c := a) W (wd6 ha) (by omega) (by omega) (Nat.le_trans (renC_le _ _) hl) (fun h' W' => dr_of rfl ?_)
    rw [(rd W').1]
    by_cases z : p = 0
    · subst z
      exact ⟨fun _ => ⟨rfl, k h' W'⟩, fun c => absurd (by decide) c⟩
    · rw [if_neg z] at hl k
      exact ⟨fun c => absurd c (nI_ge (a := 0) (by omega) (by omega)), fun _ => tail (by omega) _ _ W' hl k⟩
  rw [renC_app] at hl k
  refine v31 hP 0 (some s) h (dr_of rfl ?_)
  rw [(rd W).1]
  by_cases z : p = 0
  · subst z
    refine ⟨fun _ => dr_of rfl ?_, fun c => absurd (by decide) c⟩
    rw [(rd W).1]
    exact ⟨fun _ => dr_of rfl (first _ _ W hl k), fun c => absurd (by decide) c⟩
  · rw [if_neg z] at hl k
    refine ⟨fun c => absurd c (nI_ge (a := 0) (by omega) (by omega)), fun _ => dr_of rfl ?_⟩
    rw [(rd W).1]
    by_cases z5 : p ≤ 5
    · rw [if_pos z5] at hl k
      have lb : (putC (putC acc 70) (lnC p)).length ≤ 256 := Nat.le_trans (renC_le _ _) hl
      refine ⟨fun c => absurd c (fun c => absurd ((nI_ltI (a := 5) (by decide) (by omega)).mp c) (by omega)), fun _ => s32 (i := 0) (c := 70) W (wd_at (o := 70) wd_s.2.1 (by decide)) (by decide) (by decide) (Nat.le_trans (putC_le _ _) lb) (fun h' W' => dr_of rfl ?_)⟩
      obtain ⟨q, rfl⟩ : ∃ q, p = q + 1 := ⟨p - 1, by omega⟩
      rw [(rd W').1, show nI (q + 1) - 1 = nI q from nI_sub]
      refine s32 (c := lnC (q + 1)) W' (wd_ln (p := q + 1) (by omega) z5) (lnC_ne _) (by omega) lb (fun h2 W2 => dr_of rfl ?_)
      rw [if_neg z] at first
      exact first _ _ W2 hl k
    · rw [if_neg z5] at hl k
      refine ⟨fun _ => dr_of rfl ?_, fun c => absurd ((nI_ltI (a := 5) (by decide) (by omega)).mpr (by omega)) c⟩
      rw [(rd W).1]
      refine ⟨fun c => absurd ((nI_leI (b := 5) (by omega) (by decide)).mp c) z5, fun _ => dr_of rfl ?_⟩
      rw [(rd W).1]
      obtain ⟨q, rfl⟩ : ∃ q, p = q + 5 := ⟨p - 5, by omega⟩
      rw [show nI (q + 5) - 5 = nI q from nI_sub]
      refine s32 (c := 65 + (q + 5)) W (by rw [show 65 + (q + 5) = 70 + q by omega]; exact wd_at (o := 70) wd_s.2.1 (by omega)) (by omega) (by omega) (Nat.le_trans (renC_le _ _) hl) (fun h2 W2 => dr_of rfl ?_)
      rw [if_neg z] at first
      exact first _ _ W2 hl k
theorem p30 {d s pa : Nat} {sh : Nat → Int32} {h0 : Hp} {K : Int32 → Hp → Prop} {P : Nat → List AV → List AV → Hp → Prop} (hP : Cl (Call (d + 5)) 30 (fun v h' => ∃ x, v = some (vI x) ∧ K x h') P) (Q : ShOK h0 s pa sh) : ∀ (mm t : Nat) (acc : List Int32) (w3 : AV) (h : Hp), t + mm = 7 → WrC h0 h acc → (renC acc (paT sh mm t)).length ≤ 256 → (∀ h', WrC h0 h' (renC acc (paT sh mm t)) → K (nI (renC acc (paT sh mm t)).length) h') → P 12 [vR 4 (some 0), vR 7 (some s), vI (nI t), w3] [] h
  | 0, t, acc, w3, h, ht, W, hl, k => by
    have e : t = 7 := by omega
    subst e
    refine v30_12 hP 0 (some s) (nI 7) w3 h ⟨fun _ => ⟨_, rfl, ?_⟩, fun c => absurd (by decide) c⟩
    rw [W.2.2.2.1]
    exact k h W
  | mm + 1, t, acc, w3, h, ht, W, hl, k => by
    have Q' := W.sh Q
    unfold paT at hl k
    rw [renC_app] at hl k
    refine v30_12 hP 0 (some s) (nI t) w3 h ⟨fun c => absurd c (nI_ge (b := 7) (by omega) (by omega)), fun _ => dr_of rfl (s56 Q' (by omega) ?_)⟩
    rw [nI_1]
    refine ⟨fun c => ?_, fun c => ?_⟩
    · rw [if_pos ((Q'.no (by omega)).mp c)] at hl k
      exact p30 hP Q mm (t + 1) acc _ h (by omega) W hl k
    · rw [if_neg (fun z => c ((Q'.no (by omega)).mpr z))] at hl k
      rcases Q.2.2.2.2.2.2.2 t (by omega) with z | ⟨pt, da, z1, z2, z3, z4, z5⟩
      · exact absurd ((Q'.no (by omega)).mpr (z.2 0 (by decide))) c
      · have e : jR h 33 pa t = some pt := by rw [W.1.2.2.1]; exact z1
        rw [e]
        exact s34 W z5 z4 (by omega) (Nat.le_trans (renC_le _ _) hl) (fun h' W' => p30 hP Q mm (t + 1) _ _ h' (by omega) W' hl k)
/-- writeShield(shield) -/
theorem s30 {d s pa : Nat} {sh : Nat → Int32} {h : Hp} {K : Int32 → Hp → Prop} (S : PnS h) (Q : ShOK h s pa sh) (V : FwV sh) (hl : (wrS sh).length ≤ 256) (k : ∀ h', EqX XW h h' → PnC h' (wrS sh) → K (nI (wrS sh).length) h') : CI (d + 6) 30 [vR 4 (some 0), vR 7 (some s)] h K := by
  intro P hP
  unfold wrS shT at hl k
  rw [renC_app] at hl k
  have W : WrC h (wI h 4 0 1 0) [] := ⟨(EqX.refl XW h).wI _ (Or.inr ⟨rfl, rfl, rfl⟩), S, Nat.zero_le _, jI_same _ _ _ _ _, (fun i x e => by cases e), fun x e => absurd e List.not_mem_nil⟩
  exact v30 hP 0 (some s) h (s31 W Q V (Nat.le_trans (renC_le _ _) hl) (fun h' W' => p30 hP Q 7 0 _ un h' rfl W' hl (fun h2 W2 => k h2 W2.1 W2.2.2)))
/-- what octet answers -/
def ocS (acc : List Int32) (x : Int32) : Int32 := if x < 0 then -1 else if nI acc.length ≤ x then -1 else acc.getD (ix x) 0
theorem ocS_get {acc : List Int32} {x : Int32} (h : acc.length ≤ 256) (h1 : ¬ x < 0) (h2 : ¬ nI acc.length ≤ x) : ix x < acc.length ∧ x = nI (ix x) ∧ acc[ix x]? = some (acc.getD (ix x) 0) := by
  obtain ⟨j, hj, e⟩ := nI_of h1
  have ij : ix x = j := by rw [e]; exact ix_nI hj
  have hlt : j < acc.length := by
    rcases Nat.lt_or_ge j acc.length with z | z
    · exact z
    · exact absurd (by rw [e]; exact nI_le z hj) h2
  rw [ij]
  refine ⟨hlt, e, ?_⟩
  rw [List.getD_eq_getElem?_getD, List.getElem?_eq_getElem hlt]
  rfl
theorem s37 {d : Nat} {acc : List Int32} {x : Int32} {h : Hp} {K : Int32 → Hp → Prop} (S : PnS h) (C : PnC h acc) (k : K (ocS acc x) h) : CI (d + 1) 37 [vR 4 (some 0), vI x] h K := by
  intro P hP
  obtain ⟨c1, c2, c3, c4⟩ := C
  unfold ocS at k
  refine v37 hP 0 x h ⟨fun c => ⟨_, rfl, ?_⟩, fun cx => ⟨fun c => ⟨_, rfl, ?_⟩, fun cy => dr_of S.1 ?_⟩⟩
  · rw [if_pos c] at k; exact k
  · rw [c2] at c
    rw [if_neg cx, if_pos c] at k; exact k
  · rw [c2] at cy
    rw [if_neg cx, if_neg cy] at k
    obtain ⟨g1, g2, g3⟩ := ocS_get c1 cx cy
    refine ⟨?_, _, rfl, ?_⟩
    · rw [S.2, g2]; exact vp_in_nI (by omega) (by decide)
    · rw [c3 _ _ g3]; exact k
