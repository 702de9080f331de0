/-! the reference's write, octet -/
def roT (sh : Nat → Int32) : Nat → Nat → List Nat
  | 0, _ => []
  | m + 1, t => (if sh (3 + 9 * t) = 0 ∨ t = 1 ∨ t = 4 then [] else rpT sh t) ++ roT sh m (t + 1)
theorem ro1 (sh : Nat → Int32) (t m : Nat) : roT sh (m + 1) t = (if sh (3 + 9 * t) = 0 ∨ t = 1 ∨ t = 4 then [] else rpT sh t) ++ roT sh m (t + 1) := rfl
theorem pa1 (sh : Nat → Int32) (t m : Nat) : paT sh (m + 1) t = onT sh t ++ paT sh m (t + 1) := rfl
/-- a part and what lies on it -/
theorem ro2 {sh : Nat → Int32} {t m : Nat} (ht : t = 0 ∨ t = 3) (ho : sh (3 + 9 * t) = 0 → sh (3 + 9 * (t + 1)) = 0) (e : roT sh m (t + 2) = paT sh m (t + 2)) : roT sh (m + 2) t = paT sh (m + 2) t := by
  rw [ro1, ro1, pa1, pa1, e, if_pos (c := sh (3 + 9 * (t + 1)) = 0 ∨ t + 1 = 1 ∨ t + 1 = 4) (by omega), List.nil_append]
  by_cases z : sh (3 + 9 * t) = 0
  · have z1 := ho z
    rw [if_pos (Or.inl z)]
    unfold onT
    rw [if_pos z, if_pos z1]
    rfl
  · rw [if_neg (fun w => by rcases w with w | w; exact z w; omega)]
    unfold rpT
    rw [if_pos ht]
    have : onT sh t = pT t (fun i => sh (3 + 9 * t + i)) := by unfold onT; rw [if_neg z]
    rw [this, List.append_assoc]
theorem ro3 {sh : Nat → Int32} {t m : Nat} (ht : ¬ t = 0 ∧ ¬ t = 1 ∧ ¬ t = 3 ∧ ¬ t = 4) (e : roT sh m (t + 1) = paT sh m (t + 1)) : roT sh (m + 1) t = paT sh (m + 1) t := by
  rw [ro1, pa1, e]
  congr 1
  unfold onT
  by_cases z : sh (3 + 9 * t) = 0
  · rw [if_pos (Or.inl z), if_pos z]
  · rw [if_neg (fun w => by rcases w with w | w; exact z w; omega), if_neg z]
    unfold rpT
    rw [if_neg (by omega), List.append_nil]
theorem ro_pa {sh : Nat → Int32} (O : OnV sh) : roT sh 7 0 = paT sh 7 0 := by
  refine ro2 (Or.inl rfl) (fun z => Classical.not_not.mp (fun y => O.1 y z)) ?_
  refine ro3 (by decide) ?_
  refine ro2 (Or.inr rfl) (fun z => Classical.not_not.mp (fun y => O.2 y z)) ?_
  exact ro3 (by decide) (ro3 (by decide) rfl)
theorem p158 {d k : Nat} {l2 : Int32} {sh : Nat → Int32} {h0 : Hp} {K : Int32 → Hp → Prop} {P : Nat → List AV → List AV → Hp → Prop} (hP : Cl (Call (d + 5)) 158 (fun v h' => ∃ x, v = some (vI x) ∧ K x h') P) (Q : RsK h0 k sh) (V : ShV sh) : ∀ (mm t : Nat) (acc : List Int32) (w4 : AV) (h : Hp), t + mm = 7 → ¬ acc = [] → WrR h0 h acc → (renC acc (roT sh mm t)).length ≤ 256 → (∀ h', WrR h0 h' (renC acc (roT sh mm t)) → K (nI (renC acc (roT sh mm t)).length) h') → P 119 [vR 11 (some 0), vI (nI k), vI l2, vI (nI t), w4] [] h
  | 0, t, acc, w4, h, ht, hn, W, hl, kk => by
    have e : t = 7 := by omega
    subst e
    refine v158_119 hP 0 _ l2 (nI 7) w4 h ⟨fun _ => ⟨_, rfl, ?_⟩, fun c => absurd (by decide) c⟩
    rw [W.2.2.2.1]
    exact kk h W
  | mm + 1, t, acc, w4, h, ht, hn, W, hl, kk => by
    have hk := Q.1
    have rd0 := W.pl0 (pl := t) Q (by omega)
    rw [ro1, renC_app] at hl kk
    refine v158_119 hP 0 _ l2 (nI t) w4 h ⟨fun c => absurd c (nI_ge (b := 7) (by omega) (by omega)), fun _ => s124 ?_⟩
    rw [spot_e, nI_1]
    refine dr_of W.sh.r15 ⟨rd0.1, ?_⟩
    rw [rd0.2]
    have skip : (sh (3 + 9 * t) = 0 ∨ t = 1 ∨ t = 4) → P 119 [vR 11 (some 0), vI (nI k), vI l2, vI (nI (t + 1)), vI (nI (63 * k + 9 * t))] [] h := by
      intro z
      rw [if_pos z] at hl kk
      exact p158 hP Q V mm (t + 1) acc _ h (by omega) hn W hl kk
    refine ⟨fun c => skip (Or.inl c), fun c0 => ⟨fun c => skip (Or.inr (Or.inl ((nI_eq (b := 1) (by omega) (by decide)).mp c))), fun c1 => ⟨fun c => skip (Or.inr (Or.inr ((nI_eq (b := 4) (by omega) (by decide)).mp c))), fun c4 => ?_⟩⟩⟩
    have n1 : ¬ t = 1 := fun e => c1 (by rw [e]; rfl)
    have n4 : ¬ t = 4 := fun e => c4 (by rw [e]; rfl)
    rw [if_neg (fun w => by rcases w with w | w; exact c0 w; omega)] at hl kk
    exact s163 W hn Q V (by omega) ⟨n1, n4⟩ c0 (Nat.le_trans (renC_le _ _) hl) (fun h' W' => p158 hP Q V mm (t + 1) _ _ h' (by omega) (renC_ne hn) W' hl kk)
theorem putC_nil (c : Nat) (hc : ¬ c = 344) : putC [] c = wdC c := by
  unfold putC
  rw [if_neg hc, if_pos rfl, List.nil_append]
theorem putC_word {acc : List Int32} {c : Nat} (hc : c < 92) : ¬ putC acc c = [] := by
  unfold putC
  rw [if_neg (by omega)]
  intro e
  exact wdC_ne hc (List.append_eq_nil_iff.mp e).2
/-- the reference's write(k) -/
theorem s158 {d k n : Nat} {sh : Nat → Int32} {h : Hp} {K : Int32 → Hp → Prop} (S : RSh h) (en : jI h 11 0 11 = nI n) (hnn : n ≤ 60) (hkn : k < n) (Q : RsK h k sh) (V : ShV sh) (F : FwV sh) (O : OnV sh) (hl : (wrS sh).length ≤ 256) (kk : ∀ h', EqX XV h h' → RnC h' (wrS sh) → K (nI (wrS sh).length) h') : CI (d + 6) 158 [vR 11 (some 0), vI (nI k)] h K := by
  intro P hP
  have hk := Q.1
  have ik : ix (nI k) = k := ix_nI (by omega)
  obtain ⟨p, a, b, hp, e0, ha, e1, hb, e2⟩ := F
  unfold wrS shT at hl kk
  rw [renC_app, ← ro_pa O] at hl kk
  rw [show ix (sh 0) = p by rw [e0]; exact ix_nI (by omega), show ix (sh 1) = a by rw [e1]; exact ix_nI (by omega)] at hl kk
  unfold fT at hl kk
  have W : WrR h (wI h 11 0 17 0) [] := ⟨(EqX.refl XV h).wI _ (Or.inr ⟨rfl, rfl, rfl⟩), S, Nat.zero_le _, jI_same _ _ _ _ _, (fun i x e => by cases e), fun x e => absurd e List.not_mem_nil⟩
  have rd : ∀ {h' acc}, WrR h h' acc → jI h' 21 0 k = nI p ∧ jI h' 21 1 k = nI a ∧ jI h' 21 2 k = sh 2 := by
    intro h' acc W
    have Q' := W.rs Q
    exact ⟨by rw [Q'.2.1]; exact e0, by rw [Q'.2.2.1]; exact e1, Q'.2.2.2.1⟩
  have v61 : ∀ {h' acc}, WrR h h' acc → vp_in (nI k) (jLen h' 21 0) ∧ vp_in (nI k) (jLen h' 21 1) ∧ vp_in (nI k) (jLen h' 21 2) := fun W => ⟨vp61 (by omega) W.sh.n12, vp61 (by omega) W.sh.n13, vp61 (by omega) W.sh.n14⟩
  have go : ∀ (l2 : Int32) acc h', WrR h h' acc → ¬ acc = [] → (renC acc (roT sh 7 0)).length ≤ 256 → (∀ h2, WrR h h2 (renC acc (roT sh 7 0)) → K (nI (renC acc (roT sh 7 0)).length) h2) → P 119 [vR 11 (some 0), vI (nI k), vI l2, vI 0, un] [] h' := fun l2 acc h' W hn hl kk => p158 hP Q V 7 0 acc un h' rfl hn W hl kk
  have fin : ∀ h2, WrR h h2 (renC (renC [] ((if p = 0 then [] else if p ≤ 5 then [70, lnC p] else [65 + p]) ++ a :: (if p = 0 then [] else [78, ix (sh 2)]))) (roT sh 7 0)) → K (nI (renC (renC [] ((if p = 0 then [] else if p ≤ 5 then [70, lnC p] else [65 + p]) ++ a :: (if p = 0 then [] else [78, ix (sh 2)]))) (roT sh 7 0)).length) h2 := fun h2 W2 => kk h2 W2.1 W2.2.2
  clear kk
  have l0 := Nat.le_trans (renC_le _ _) hl
  refine v158 hP 0 (nI k) h (s159 en hnn (fun z => absurd rfl (z k hkn)) (fun _ _ _ => ⟨fun _ => ?_, fun z => absurd (by decide) z⟩))
  generalize wI h 11 0 17 0 = g at W ⊢
  have tl : 0 < p → ∀ acc h' (l2 : Int32), WrR h h' acc → ¬ acc = [] → (renC (renC acc [a, 78, ix (sh 2)]) (roT sh 7 0)).length ≤ 256 → (∀ h2, WrR h h2 (renC (renC acc [a, 78, ix (sh 2)]) (roT sh 7 0)) → K (nI (renC (renC acc [a, 78, ix (sh 2)]) (roT sh 7 0)).length) h2) → dr (jR h' 11 0 13) (fun a11 => vp_in (nI k) (jLen h' 21 a11) ∧ (CJ (d + 5) 132 [vI (jI h' 21 a11 (ix (nI k)))] h' (fun x13 h12 => CV (d + 5) 162 [vR 11 (some 0), vL x13] h12 (fun h14 => CV (d + 5) 162 [vR 11 (some 0), vL 6385252] h14 (fun h15 => dr (jR h15 11 0 14) (fun a16 => vp_in (nI k) (jLen h15 21 a16) ∧ (CJ (d + 5) 132 [vI (jI h15 21 a16 (ix (nI k)))] h15 (fun x18 h17 => CV (d + 5) 162 [vR 11 (some 0), vL x18] h17 (fun h19 => P 119 [vR 11 (some 0), vI (nI k), vI l2, vI 0, un] [] h19))))))))) := by
    intro hp0 acc h' l2 W hn hl kk
    have e2 : sh 2 = nI b := by
      rcases e2 with z | z
      · omega
      · exact z.2
    have i2 : ix (sh 2) = b := by rw [e2]; exact ix_nI (by omega)
    rw [i2] at hl kk
    have l3 : (putC (putC (putC acc a) 78) b).length ≤ 256 := Nat.le_trans (renC_le _ _) hl
    have l2' := Nat.le_trans (putC_le _ _) l3
    refine dr_of W.sh.r13 ⟨(v61 W).2.1, ?_⟩
    rw [ik, (rd W).2.1]
    refine s132 (by omega) (by omega) (sayW (c := a) W hn (ltT ha) (by omega) (Nat.le_trans (putC_le _ _) l2') (fun h1 W1 => sayW (c := 78) W1 (putC_ne hn) lt_one.2.1 (by decide) l2' (fun h2 W2 => dr_of W2.sh.r14 ⟨(v61 W2).2.2, ?_⟩)))
    rw [(rd W2).2.2, e2]
    exact s132 (by omega) (by omega) (sayW (c := b) W2 (putC_ne (putC_ne hn)) (ltT hb) (by omega) l3 (fun h3 W3 => go _ _ _ W3 (putC_ne (putC_ne (putC_ne hn))) hl kk))
  rw [ik] at tl
  refine dr_of W.sh.r12 ⟨(v61 W).1, ?_⟩
  rw [ik, (rd W).1]
  by_cases z : p = 0
  · subst z
    refine ⟨fun _ => ⟨fun _ => dr_of W.sh.r13 ⟨(v61 W).2.1, ?_⟩, fun c => absurd (by decide) c⟩, fun c => absurd (by decide) c⟩
    rw [(rd W).2.1]
    have hl : (renC (putC [] a) (roT sh 7 0)).length ≤ 256 := hl
    have fin : ∀ h2, WrR h h2 (renC (putC [] a) (roT sh 7 0)) → K (nI (renC (putC [] a) (roT sh 7 0)).length) h2 := fin
    rw [putC_nil a (by omega)] at hl fin
    exact s132 (by omega) (by omega) (s160 W (ltT ha) (wdC_ok a) (Nat.le_trans (renC_le _ _) hl) (fun h1 W1 => go _ _ _ W1 (wdC_ne (by omega)) hl fin))
  · rw [if_neg z] at hl fin l0
    have p0 : ¬ nI p ≤ 0 := nI_ge (a := 0) (by omega) (by omega)
    have hp0 : 0 < p := Nat.pos_of_ne_zero z
    have eP := ltP (t := p) (by omega) hp
    refine ⟨fun c => absurd c p0, fun _ => ⟨fun c6 => ⟨fun c => absurd c p0, fun _ => s136 (by omega) hp ?_⟩, fun c6 => ?_⟩⟩
    · have c6 : ¬ p ≤ 5 := by
        have := (nI_leI (a := 6) (by decide) (by omega)).mp c6
        omega
      rw [if_neg c6] at hl fin eP l0
      have hl : (renC (renC (putC [] (65 + p)) [a, 78, ix (sh 2)]) (roT sh 7 0)).length ≤ 256 := by
        rw [if_neg z] at hl; exact hl
      have fin : ∀ h2, WrR h h2 (renC (renC (putC [] (65 + p)) [a, 78, ix (sh 2)]) (roT sh 7 0)) → K (nI (renC (renC (putC [] (65 + p)) [a, 78, ix (sh 2)]) (roT sh 7 0)).length) h2 := by
        rw [if_neg z] at fin; exact fin
      have ne := wdC_ne (c := 65 + p) (by omega)
      rw [putC_nil _ (by omega)] at hl fin
      have l1 : (wdC (65 + p)).length ≤ 256 := Nat.le_trans (renC_le _ _) (Nat.le_trans (renC_le _ _) hl)
      by_cases z6 : p = 6
      · rw [if_pos z6] at eP
        rw [← eP] at hl fin l1 ne
        have ok := wdC_ok (65 + p)
        rw [← eP] at ok
        generalize hX : ltN (prtL.getD p 0) 8 = X at eP hl fin l1 ne ok
        have l2 : ([] ++ X).length ≤ 256 := by
          rw [List.length_append] at l1
          rw [List.nil_append]; omega
        refine s160 W hX (fun x y => ok x (List.mem_append_left _ y)) l2 (fun h1 W1 => ?_)
        rw [List.nil_append] at W1
        refine ⟨fun c => absurd (by rw [z6]; rfl) c, fun _ => s160 W1 lt_one.2.2.2.2.2.2.2.2.2.1 (fun x y => ok x (List.mem_append_right _ y)) l1 (fun h2 W2 => ?_)⟩
        exact tl hp0 (X ++ [121]) h2 (nI p) W2 ne hl fin
      · rw [if_neg z6, List.append_nil] at eP
        exact s160 W eP (wdC_ok _) l1 (fun h1 W1 => ⟨fun _ => tl hp0 _ _ _ W1 ne hl fin, fun c => absurd (fun e => z6 ((nI_eq (b := 6) (by omega) (by decide)).mp e)) c⟩)
    · have c6 : p ≤ 5 := by
        rcases Nat.lt_or_ge 5 p with y | y
        · exact absurd (nI_le (a := 6) y (by omega)) c6
        · exact y
      rw [if_pos c6] at hl fin eP l0
      rw [if_neg (by omega), List.append_nil] at eP
      have hl : (renC (renC (putC (putC [] 70) (lnC p)) [a, 78, ix (sh 2)]) (roT sh 7 0)).length ≤ 256 := by
        rw [if_neg z] at hl; exact hl
      have fin : ∀ h2, WrR h h2 (renC (renC (putC (putC [] 70) (lnC p)) [a, 78, ix (sh 2)]) (roT sh 7 0)) → K (nI (renC (renC (putC (putC [] 70) (lnC p)) [a, 78, ix (sh 2)]) (roT sh 7 0)).length) h2 := by
        rw [if_neg z] at fin; exact fin
      have e7 : putC [] 70 = wdC 70 := putC_nil 70 (by decide)
      have n7 := wdC_ne (c := 70) (by decide)
      rw [e7] at hl fin
      have ne : ¬ putC (wdC 70) (lnC p) = [] := putC_ne n7
      have l1 : (putC (wdC 70) (lnC p)).length ≤ 256 := Nat.le_trans (renC_le _ _) (Nat.le_trans (renC_le _ _) hl)
      have e8 : putC (wdC 70) (lnC p) = wdC 70 ++ [32] ++ wdC (lnC p) := by
        unfold putC
        rw [if_neg (lnC_ne p), if_neg n7]
      refine s160 W lt_one.2.2.1 (wdC_ok 70) (by decide +kernel) (fun h1 W1 => s161 W1 (by show (wdC 70).length < 256; decide +kernel) (fun h2 W2 => ⟨fun c => absurd c p0, fun _ => s136 (by omega) hp (s160 W2 eP (wdC_ok _) (by rw [e8] at l1; exact l1) (fun h3 W3 => ⟨fun _ => tl hp0 _ _ _ (by rw [e8]; exact W3) ne hl fin, fun c => absurd (fun e => ?_) c⟩))⟩))
      have := (nI_eq (b := 6) (by omega) (by decide)).mp e
      omega
theorem s158n {d n : Nat} {l1 : Int32} {h : Hp} {K : Int32 → Hp → Prop} (en : jI h 11 0 11 = nI n) (hn : n ≤ 60) (hno : ∀ j, j < n → ¬ l1 = nI j) (kk : K (-1) h) : CI (d + 2) 158 [vR 11 (some 0), vI l1] h K := fun P hP => v158 hP 0 l1 h (s159 en hn (fun _ => ⟨fun z => absurd rfl z, fun _ => ⟨_, rfl, kk⟩⟩) (fun j hj ej => absurd ej (hno j hj)))
theorem s167 {d : Nat} {acc : List Int32} {x : Int32} {h : Hp} {K : Int32 → Hp → Prop} (S : RSh h) (C : RnC h acc) (k : K (ocS acc x) h) : CI (d + 1) 167 [vR 11 (some 0), vI x] h K := by
  intro P hP
  obtain ⟨c1, c2, c3, c4⟩ := C
  unfold ocS at k
  refine v167 hP 0 x h ⟨fun c => ⟨_, rfl, ?_⟩, fun cx => ⟨fun c => ⟨_, rfl, ?_⟩, fun cy => dr_of S.r16 ?_⟩⟩
  · rw [if_pos c] at k; exact k
  · rw [c2] at c
    rw [if_neg cx, if_pos c] at k; exact k
  · rw [c2] at cy
    rw [if_neg cx, if_neg cy] at k
    obtain ⟨g1, g2, g3⟩ := ocS_get c1 cx cy
    refine ⟨?_, _, rfl, ?_⟩
    · rw [S.n16, g2]; exact vp_in_nI (by omega) (by decide)
    · rw [c3 _ _ g3, (nar_ok (c4 _ (List.mem_of_getElem? g3))).2.2.2]; exact k
