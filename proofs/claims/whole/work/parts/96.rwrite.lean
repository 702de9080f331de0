/-! the reference's write -/
theorem xv21 (a k : Nat) : ¬ XV 21 a k := by
  unfold XV
  intro z
  rcases z with z | z <;> exact absurd z.1 (by decide)
theorem RsK.eqX {X : Nat → Nat → Nat → Prop} {h0 h : Hp} {k : Nat} {sh : Nat → Int32} (Q : RsK h0 k sh) (E : EqX X h0 h) (hX : ∀ a k, a < 4 → ¬ X 21 a k) : RsK h k sh := by
  obtain ⟨q1, q2, q3, q4, q5⟩ := Q
  have e7 := E.2.2.2.2.2.2
  refine ⟨q1, ?_, ?_, ?_, fun i hi => ?_⟩
  · rw [e7 21 0 k (hX 0 k (by decide))]; exact q2
  · rw [e7 21 1 k (hX 1 k (by decide))]; exact q3
  · rw [e7 21 2 k (hX 2 k (by decide))]; exact q4
  · rw [e7 21 3 _ (hX 3 _ (by decide))]; exact q5 i hi
theorem WrR.rs {h0 h : Hp} {acc : List Int32} {k : Nat} {sh : Nat → Int32} (W : WrR h0 h acc) (Q : RsK h0 k sh) : RsK h k sh := Q.eqX W.1 (fun a k _ => xv21 a k)
theorem WrR.sh {h0 h : Hp} {acc : List Int32} (W : WrR h0 h acc) : RSh h := W.1.sh W.2.1
theorem WrR.pl {h0 h : Hp} {acc : List Int32} {k pl i : Nat} {sh : Nat → Int32} (W : WrR h0 h acc) (Q : RsK h0 k sh) (hpl : pl < 7) (hi : i < 9) : vp_in (nI (63 * k + 9 * pl) + nI i) (jLen h 21 3) ∧ jI h 21 3 (ix (nI (63 * k + 9 * pl) + nI i)) = sh (3 + 9 * pl + i) := by
  have Q' := W.rs Q
  have hk := Q'.1
  rw [spot_i]
  refine ⟨vp3843 (by omega) hpl hi W.sh.n15, ?_⟩
  rw [ix_nI (by omega)]
  exact Q'.p hpl hi
theorem WrR.pl0 {h0 h : Hp} {acc : List Int32} {k pl : Nat} {sh : Nat → Int32} (W : WrR h0 h acc) (Q : RsK h0 k sh) (hpl : pl < 7) : vp_in (nI (63 * k + 9 * pl)) (jLen h 21 3) ∧ jI h 21 3 (ix (nI (63 * k + 9 * pl))) = sh (3 + 9 * pl) := by
  have := W.pl (i := 0) Q hpl (by decide)
  rw [show nI (63 * k + 9 * pl) + nI 0 = nI (63 * k + 9 * pl) from Int32.add_zero _] at this
  exact this
theorem p165 {d k pl : Nat} {sh : Nat → Int32} {l2 l3 l4 : Int32} {h0 : Hp} {K : Hp → Prop} {P : Nat → List AV → List AV → Hp → Prop} (hP : Cl (Call (d + 2)) 165 (fun v h' => v = none ∧ K h') P) (Q : RsK h0 k sh) (hpl : pl < 7) (D : ∀ i, i < 5 → DuV (sh (3 + 9 * pl + (4 + i)))) : ∀ (mm t : Nat) (acc : List Int32) (h : Hp), t + mm = 5 → ¬ acc = [] → WrR h0 h acc → (renC acc (duT (fun i => sh (3 + 9 * pl + i)) mm t)).length ≤ 256 → (∀ h', WrR h0 h' (renC acc (duT (fun i => sh (3 + 9 * pl + i)) mm t)) → K h') → P 122 [vR 11 (some 0), vI (nI (63 * k + 9 * pl)), vI l2, vI l3, vI l4, vI (nI t)] [] h
  | 0, t, acc, h, ht, hn, W, hl, kk => by
    have e : t = 5 := by omega
    subst e
    exact v165_122 hP 0 _ l2 l3 l4 (nI 5) h ⟨fun _ => ⟨rfl, kk h W⟩, fun c => absurd (by decide) c⟩
  | mm + 1, t, acc, h, ht, hn, W, hl, kk => by
    have hk := Q.1
    have e4 := v4t k pl t
    have e5 : nI (63 * k + (9 * pl + (4 + t))) = nI (63 * k + 9 * pl) + nI (4 + t) := (spot_i k pl (4 + t)).symm
    rw [e5] at e4
    have rd := W.pl (i := 4 + t) Q hpl (by omega)
    unfold duT at hl kk
    rw [renC_app] at hl kk
    refine v165_122 hP 0 _ l2 l3 l4 (nI t) h ⟨fun c => absurd c (nI_ge (b := 5) (by omega) (by omega)), fun _ => ?_⟩
    rw [e4]
    refine dr_of W.sh.r15 ⟨rd.1, ?_⟩
    rw [rd.2]
    refine ⟨fun c => ?_, fun c => ?_⟩
    · rw [if_neg c] at hl kk
      obtain ⟨u, hu, eu⟩ : ∃ u, u < 9 ∧ sh (3 + 9 * pl + (4 + t)) = nI u := by
        rcases D t (by omega) with z | z
        · exact absurd z c
        · exact z
      have iu : ix (sh (3 + 9 * pl + (4 + t))) = u := by rw [eu]; exact ix_nI (by omega)
      rw [iu] at hl kk
      have hl2 : (putC (putC acc (65 + t)) u).length ≤ 256 := Nat.le_trans (renC_le _ _) hl
      refine s154 (by omega) (by omega) (sayW (c := 65 + t) W hn (ltD (by omega)) (by omega) (Nat.le_trans (putC_le _ _) hl2) (fun h' W' => ?_))
      have rd' := W'.pl (i := 4 + t) Q hpl (by omega)
      refine dr_of W'.sh.r15 ⟨rd'.1, ?_⟩
      rw [rd'.2, eu]
      refine s132 (by omega) (by omega) (sayW (c := u) W' (putC_ne hn) (ltT hu) (by omega) hl2 (fun h2 W2 => v165_173 hP 0 _ l2 l3 l4 (nI t) h2 ?_))
      rw [nI_1]
      exact p165 hP Q hpl D mm (t + 1) _ h2 (by omega) (putC_ne (putC_ne hn)) W2 hl kk
    · rw [if_pos (Classical.not_not.mp c)] at hl kk
      refine v165_173 hP 0 _ l2 l3 l4 (nI t) h ?_
      rw [nI_1]
      exact p165 hP Q hpl D mm (t + 1) acc h (by omega) hn W hl kk
/-- saysCharges -/
theorem s165 {d k pl : Nat} {sh : Nat → Int32} {acc : List Int32} {h0 h : Hp} {K : Hp → Prop} (W : WrR h0 h acc) (hn : ¬ acc = []) (Q : RsK h0 k sh) (hpl : pl < 7) (V : PV pl (fun i => sh (3 + 9 * pl + i))) (hpl2 : pl = 1 ∨ pl = 2 ∨ pl = 4) (hl : (renC acc (cT (fun i => sh (3 + 9 * pl + i)))).length ≤ 256) (kk : ∀ h', WrR h0 h' (renC acc (cT (fun i => sh (3 + 9 * pl + i)))) → K h') : CV (d + 3) 165 [vR 11 (some 0), vI (nI (63 * k + 9 * pl))] h K := by
  intro P hP
  obtain ⟨kn, t, m, w, g0, g1, g2, g3, h4, h5, h6, h7, h8, h9⟩ := V
  have g0 : sh (3 + 9 * pl) = nI kn := g0
  have g1 : sh (3 + 9 * pl + 1) = nI t := g1
  have g2 : sh (3 + 9 * pl + 2) = nI m := g2
  have g3 : sh (3 + 9 * pl + 3) = nI w := g3
  have kb : 16 ≤ kn ∧ kn ≤ 29 := by omega
  unfold cT at hl kk
  dsimp only at hl kk
  rw [show sh (3 + 9 * pl + 0) = nI kn from g0, g1, g2, g3, ix_nI (by omega), ix_nI (by omega), ix_nI (by omega), ix_nI (by omega)] at hl kk
  rw [renC_cons, renC_cons, renC_app, renC_cons] at hl kk
  have c104 : ∀ acc h l4, WrR h0 h acc → ¬ acc = [] → (renC (putC acc t) (duT (fun i => sh (3 + 9 * pl + i)) 5 0)).length ≤ 256 → (∀ h', WrR h0 h' (renC (putC acc t) (duT (fun i => sh (3 + 9 * pl + i)) 5 0)) → K h') → P 104 [vR 11 (some 0), vI (nI (63 * k + 9 * pl)), vI (nI m), vI (nI kn), vI l4, un] [] h := by
    intro acc h l4 W hn hl kk
    have rd := W.pl (i := 1) Q hpl (by decide)
    refine v165_104 hP 0 _ _ _ l4 h (dr_of W.sh.r15 ⟨rd.1, ?_⟩)
    rw [show nI (63 * k + 9 * pl) + 1 = nI (63 * k + 9 * pl) + nI 1 from rfl, rd.2, g1]
    exact s132 (by omega) (by omega) (sayW (c := t) W hn (ltT h4) (by omega) (Nat.le_trans (renC_le _ _) hl) (fun h' W' => p165 hP Q hpl h8 5 0 _ h' rfl (putC_ne hn) W' hl kk))
  have c67 : ∀ acc h, WrR h0 h acc → ¬ acc = [] → (renC (putC (renC acc (attT w)) t) (duT (fun i => sh (3 + 9 * pl + i)) 5 0)).length ≤ 256 → (∀ h', WrR h0 h' (renC (putC (renC acc (attT w)) t) (duT (fun i => sh (3 + 9 * pl + i)) 5 0)) → K h') → P 67 [vR 11 (some 0), vI (nI (63 * k + 9 * pl)), vI (nI m), vI (nI kn), un, un] [] h := by
    intro acc h W hn hl kk
    have rd := W.pl (i := 3) Q hpl (by decide)
    refine v165_67 hP 0 _ _ _ h (dr_of W.sh.r15 ⟨rd.1, ?_⟩)
    rw [show nI (63 * k + 9 * pl) + 3 = nI (63 * k + 9 * pl) + nI 3 from rfl, rd.2, g3]
    unfold attT at hl kk
    by_cases z : w = 0
    · subst z
      exact ⟨fun _ => v165_91 hP 0 _ _ _ (nI 0) h ⟨fun _ => c104 _ _ _ W hn hl kk, fun c => absurd (by decide) c⟩, fun c => absurd (by decide) c⟩
    · rw [if_neg z] at hl kk
      have hl3 : (putC acc (59 + w)).length ≤ 256 := Nat.le_trans (putC_le _ _) (Nat.le_trans (renC_le _ _) hl)
      have eA := ltA (t := w) (by omega) h7
      refine ⟨fun c => absurd c (nI_ge (a := 0) (by omega) (by omega)), fun _ => s152 (by omega) h7 ?_⟩
      by_cases z4 : w = 4
      · subst z4
        refine CV.of (fun h1 z => z) (CV.of (fun h1 z => v165_91 hP 0 _ _ _ (nI 4) h1 ⟨fun c => absurd (by decide) c, fun _ => z⟩) (sayWs (w2 := 100) (c := 63) W hn (by rw [lt_one.2.2.2.2.2.2.2.2.2.2.2]; exact eA) (by decide) hl3 (fun h' W' => c104 _ _ _ W' (putC_ne hn) hl kk)))
      · rw [if_neg z4, List.append_nil] at eA
        exact sayW (c := 59 + w) W hn eA (by omega) hl3 (fun h' W' => v165_91 hP 0 _ _ _ (nI w) h' ⟨fun _ => c104 _ _ _ W' (putC_ne hn) hl kk, fun c => absurd (fun e => z4 ((nI_eq (b := 4) (by omega) (by decide)).mp e)) c⟩)
  have rd2 := W.pl (i := 2) Q hpl (by decide)
  have rd0 := W.pl0 Q hpl
  have la : (putC (putC acc (53 + m)) (nT kn m)).length ≤ 256 := Nat.le_trans (renC_le _ _) (Nat.le_trans (putC_le _ _) (Nat.le_trans (renC_le _ _) hl))
  refine v165 hP 0 _ h (dr_of W.sh.r15 ⟨rd2.1, dr_of W.sh.r15 ⟨rd0.1, ?_⟩⟩)
  rw [show nI (63 * k + 9 * pl) + 2 = nI (63 * k + 9 * pl) + nI 2 from rfl, rd2.2, rd0.2, g2, g0]
  refine s143 h5 h6 (sayW (c := 53 + m) W hn (ltM h5 h6) (by omega) (Nat.le_trans (putC_le _ _) la) (fun h' W' => ?_))
  have hn' := putC_ne (c := 53 + m) hn
  unfold nT at la hl kk
  by_cases z : m = 1
  · subst z
    rw [if_pos rfl] at la hl kk
    exact ⟨fun _ => v165_42 hP 0 _ _ _ h' (s141 (by omega) (by omega) (v165_46 hP 0 _ _ _ _ h' (sayW (c := 9 + kn) W' hn' (ltK (by omega)) (by omega) la (fun h2 W2 => ⟨fun _ => c67 _ _ W2 (putC_ne hn') hl kk, fun c => absurd (by decide) c⟩)))), fun c => absurd (by decide) c⟩
  · rw [if_neg z] at la hl kk
    have m1 : ¬ nI m ≤ 1 := nI_ge (a := 1) (by omega) (by omega)
    refine ⟨fun c => absurd c m1, fun _ => ⟨fun c => ?_, fun c => ?_⟩⟩
    · have k22 : ¬ kn = 22 := fun e => c (by rw [e]; rfl)
      refine v165_42 hP 0 _ _ _ h' (s141 (by omega) (by omega) (v165_46 hP 0 _ _ _ _ h' ?_))
      exact CV.of (fun h1 z => ⟨fun c2 => absurd c2 m1, fun _ => ⟨fun c2 => absurd c2 c, fun _ => z⟩⟩) (sayWs (c := 24 + kn) W' hn' (ltG kb.1 kb.2 k22) (by omega) la (fun h2 W2 => c67 _ _ W2 (putC_ne hn') hl kk))
    · have k22 : kn = 22 := (nI_eq (b := 22) (by omega) (by decide)).mp (Classical.not_not.mp c)
      subst k22
      exact v165_46 hP 0 _ _ _ _ h' (sayW (c := 46) W' hn' lt_one.1 (by decide) la (fun h2 W2 => ⟨fun c2 => absurd c2 m1, fun _ => ⟨fun _ => c67 _ _ W2 (putC_ne hn') hl kk, fun c2 => absurd rfl c2⟩⟩))
def onT (sh : Nat → Int32) (pl : Nat) : List Nat := if sh (3 + 9 * pl) = 0 then [] else pT pl (fun i => sh (3 + 9 * pl + i))
/-- saysOn -/
theorem s166 {d k pl : Nat} {sh : Nat → Int32} {acc : List Int32} {h0 h : Hp} {K : Hp → Prop} (W : WrR h0 h acc) (hn : ¬ acc = []) (Q : RsK h0 k sh) (V : ShV sh) (hpl2 : pl = 1 ∨ pl = 4) (hl : (renC acc (onT sh pl)).length ≤ 256) (kk : ∀ h', WrR h0 h' (renC acc (onT sh pl)) → K h') : CV (d + 4) 166 [vR 11 (some 0), vI (nI (63 * k + 9 * pl))] h K := by
  intro P hP
  have hpl : pl < 7 := by omega
  have rd0 := W.pl0 Q hpl
  refine v166 hP 0 _ h (dr_of W.sh.r15 ⟨rd0.1, ?_⟩)
  rw [rd0.2]
  unfold onT at hl kk
  refine ⟨fun c => ?_, fun c => ⟨rfl, ?_⟩⟩
  · rw [if_neg c] at hl kk
    have V2 : PV pl (fun i => sh (3 + 9 * pl + i)) := by
      rcases V.2 pl hpl with z | z
      · exact absurd (z 0 (by decide)) c
      · exact z
    unfold pT hT gT at hl kk
    rw [if_pos hpl2, if_neg (by omega), if_neg (by omega), renC_app] at hl kk
    have lb : (putC (putC acc 79) 80).length ≤ 256 := Nat.le_trans (renC_le _ _) hl
    exact sayW (c := 79) W hn lt_one.2.2.2.1 (by decide) (Nat.le_trans (putC_le _ _) lb) (fun h' W' => sayW (c := 80) W' (putC_ne hn) lt_one.2.2.2.2.1 (by decide) lb (fun h2 W2 => s165 W2 (putC_ne (putC_ne hn)) Q hpl V2 (by omega) hl (fun h3 W3 => ⟨rfl, kk h3 W3⟩)))
  · rw [if_pos (Classical.not_not.mp c)] at kk
    exact kk h W
theorem duT_no {r : Nat → Int32} : ∀ {m t : Nat}, (∀ i, i < t + m → r (4 + i) = -1) → duT r m t = []
  | 0, _, _ => rfl
  | m + 1, t, h => by
    unfold duT
    rw [if_pos (h t (by omega)), duT_no (m := m) (t := t + 1) (fun i hi => h i (by omega))]
    rfl
def rpT (sh : Nat → Int32) (pl : Nat) : List Nat := pT pl (fun i => sh (3 + 9 * pl + i)) ++ (if pl = 0 ∨ pl = 3 then onT sh (pl + 1) else [])
/-- saysPart -/
theorem s163 {d k pl : Nat} {sh : Nat → Int32} {acc : List Int32} {h0 h : Hp} {K : Hp → Prop} (W : WrR h0 h acc) (hn : ¬ acc = []) (Q : RsK h0 k sh) (V : ShV sh) (hpl : pl < 7) (hno : ¬ pl = 1 ∧ ¬ pl = 4) (hz : ¬ sh (3 + 9 * pl) = 0) (hl : (renC acc (rpT sh pl)).length ≤ 256) (kk : ∀ h', WrR h0 h' (renC acc (rpT sh pl)) → K h') : CV (d + 5) 163 [vR 11 (some 0), vI (nI k), vI (nI pl), vI (nI (63 * k + 9 * pl))] h K := by
  intro P hP
  have V2 : PV pl (fun i => sh (3 + 9 * pl + i)) := by
    rcases V.2 pl hpl with z | z
    · exact absurd (z 0 (by decide)) hz
    · exact z
  unfold rpT pT at hl kk
  have eh : hT pl = [344] := by unfold hT; rw [if_neg (by omega)]
  rw [eh, List.append_assoc, List.append_assoc, renC_app] at hl kk
  refine v163 hP 0 (nI k) (nI pl) _ h (s164 W (Nat.le_trans (renC_le _ _) hl) (fun h1 W1 => ?_))
  have hl : (renC (putC acc 344) (gT pl ++ (cT (fun i => sh (3 + 9 * pl + i)) ++ (if pl = 0 ∨ pl = 3 then onT sh (pl + 1) else [])))).length ≤ 256 := hl
  have kk : ∀ h', WrR h0 h' (renC (putC acc 344) (gT pl ++ (cT (fun i => sh (3 + 9 * pl + i)) ++ (if pl = 0 ∨ pl = 3 then onT sh (pl + 1) else [])))) → K h' := kk
  have hn1 := putC_ne (c := 344) hn
  generalize putC acc 344 = acc1 at W1 hl kk hn1
  by_cases z2 : pl = 2
  · subst z2
    refine ⟨fun c => absurd rfl c, fun _ => s165 W1 hn1 Q hpl V2 (by decide) ?_ (fun h2 W2 => ⟨rfl, kk h2 ?_⟩)⟩
    · rw [if_neg (by decide), List.append_nil] at hl; exact hl
    · rw [if_neg (by decide), List.append_nil]; exact W2
  · have n2 : ¬ nI pl = 2 := fun e => z2 ((nI_eq (b := 2) (by omega) (by decide)).mp e)
    obtain ⟨kn, t, m, w, g0, g1, g2, g3, h4, h5, h6, h7, h8, h9⟩ := V2
    have g0 : sh (3 + 9 * pl) = nI kn := g0
    have g1 : sh (3 + 9 * pl + 1) = nI t := g1
    have h9 : m = 1 ∧ w = 0 ∧ kn ≤ 30 ∧ ∀ i, i < 5 → sh (3 + 9 * pl + (4 + i)) = -1 := by
      rcases h9 with z | z
      · exact ⟨z.2.1, z.2.2.1, by omega, z.2.2.2⟩
      · omega
    obtain ⟨rfl, rfl, hkn, hdu⟩ := h9
    have ec : cT (fun i => sh (3 + 9 * pl + i)) = [54, 9 + kn, t] := by
      unfold cT
      dsimp only
      rw [show sh (3 + 9 * pl + 0) = nI kn from g0, g1, show sh (3 + 9 * pl + 2) = nI 1 from g2, show sh (3 + 9 * pl + 3) = nI 0 from g3, ix_nI (by omega), ix_nI (by omega), ix_nI (by omega), ix_nI (by omega), duT_no (m := 5) (t := 0) (fun i hi => hdu i (by omega))]
      rfl
    rw [ec, renC_app] at hl kk
    have c109 : ∀ h, K h → P 109 [vR 11 (some 0), vI (nI k), vI (nI pl), vI (nI (63 * k + 9 * pl))] [] h := fun h z => v163_109 hP 0 _ _ _ h ⟨rfl, z⟩
    have c54 : ∀ acc h, WrR h0 h acc → ¬ acc = [] → (renC acc ([54, 9 + kn, t] ++ (if pl = 0 ∨ pl = 3 then onT sh (pl + 1) else []))).length ≤ 256 → (∀ h', WrR h0 h' (renC acc ([54, 9 + kn, t] ++ (if pl = 0 ∨ pl = 3 then onT sh (pl + 1) else []))) → K h') → P 54 [vR 11 (some 0), vI (nI k), vI (nI pl), vI (nI (63 * k + 9 * pl))] [] h := by
      intro acc h W hn hl kk
      rw [renC_app] at hl kk
      have l3 : (putC (putC (putC acc 54) (9 + kn)) t).length ≤ 256 := Nat.le_trans (renC_le _ _) hl
      have l2 := Nat.le_trans (putC_le _ _) l3
      refine v163_54 hP 0 _ _ _ h (sayW (c := 54) W hn lt_one.2.2.2.2.2.2.2.2.1 (by decide) (Nat.le_trans (putC_le _ _) l2) (fun h1 W1 => ?_))
      have rd0 := W1.pl0 Q hpl
      refine dr_of W1.sh.r15 ⟨rd0.1, ?_⟩
      rw [rd0.2, g0]
      refine s141 (by omega) hkn (sayW (c := 9 + kn) W1 (putC_ne hn) (ltK hkn) (by omega) l2 (fun h2 W2 => ?_))
      have rd1 := W2.pl (i := 1) Q hpl (by decide)
      refine dr_of W2.sh.r15 ⟨rd1.1, ?_⟩
      rw [show nI (63 * k + 9 * pl) + 1 = nI (63 * k + 9 * pl) + nI 1 from rfl, rd1.2, g1]
      refine s132 (by omega) (by omega) (sayW (c := t) W2 (putC_ne (putC_ne hn)) (ltT h4) (by omega) l3 (fun h3 W3 => ?_))
      have hn3 := putC_ne (c := t) (putC_ne (c := 9 + kn) (putC_ne (c := 54) hn))
      have on : (pl = 0 ∨ pl = 3) → P 98 [vR 11 (some 0), vI (nI k), vI (nI pl), vI (nI (63 * k + 9 * pl))] [] h3 := by
        intro z
        rw [if_pos z] at hl kk
        refine v163_98 hP 0 _ _ _ h3 (s124 ?_)
        rw [nI_1, spot_e]
        exact s166 W3 hn3 Q V (by omega) hl (fun h4 W4 => c109 h4 (kk h4 W4))
      refine ⟨fun c => on (Or.inl ((nI_eq (b := 0) (by omega) (by decide)).mp c)), fun c0 => ⟨fun c3 => ?_, fun c3 => on (Or.inr ((nI_eq (b := 3) (by omega) (by decide)).mp (Classical.not_not.mp c3)))⟩⟩
      have z : ¬ (pl = 0 ∨ pl = 3) := by
        intro z
        rcases z with z | z
        · exact c0 (by rw [z]; rfl)
        · exact c3 (by rw [z]; rfl)
      rw [if_neg z] at kk
      exact c109 h3 (kk h3 W3)
    have c27 : ∀ acc h, WrR h0 h acc → ¬ acc = [] → ¬ pl = 5 → (renC (renC acc (gT pl)) ([54, 9 + kn, t] ++ (if pl = 0 ∨ pl = 3 then onT sh (pl + 1) else []))).length ≤ 256 → (∀ h', WrR h0 h' (renC (renC acc (gT pl)) ([54, 9 + kn, t] ++ (if pl = 0 ∨ pl = 3 then onT sh (pl + 1) else []))) → K h') → P 27 [vR 11 (some 0), vI (nI k), vI (nI pl), vI (nI (63 * k + 9 * pl))] [] h := by
      intro acc h W hn n5 hl kk
      unfold gT at hl kk
      rw [if_neg n5] at hl kk
      refine v163_27 hP 0 _ _ _ h ⟨fun c => ?_, fun c => ?_⟩
      · have n6 : ¬ pl = 6 := fun e => c (by rw [e]; rfl)
        rw [if_neg n6] at hl kk
        exact c54 _ _ W hn hl kk
      · have n6 : pl = 6 := (nI_eq (b := 6) (by omega) (by decide)).mp (Classical.not_not.mp c)
        rw [if_pos n6] at hl kk
        have lb : (putC (putC acc 77) 81).length ≤ 256 := Nat.le_trans (renC_le _ _) hl
        exact sayW (c := 77) W hn lt_one.2.2.2.2.2.2.1 (by decide) (Nat.le_trans (putC_le _ _) lb) (fun h1 W1 => sayWs (c := 81) W1 (putC_ne hn) lt_one.2.2.2.2.2.2.2.1 (by decide) lb (fun h2 W2 => c54 _ _ W2 (putC_ne (putC_ne hn)) hl kk))
    refine ⟨fun _ => ⟨fun c5 => c27 _ _ W1 hn1 (fun e => c5 (by rw [e]; rfl)) hl kk, fun c5 => ?_⟩, fun c => absurd n2 c⟩
    have n5 : pl = 5 := (nI_eq (b := 5) (by omega) (by decide)).mp (Classical.not_not.mp c5)
    have eg : gT pl = [76] := by unfold gT; rw [if_pos n5]
    rw [eg] at hl kk
    refine sayW (c := 76) W1 hn1 lt_one.2.2.2.2.2.1 (by decide) (Nat.le_trans (renC_le _ _) hl) (fun h2 W2 => v163_27 hP 0 _ _ _ h2 ⟨fun _ => c54 _ _ W2 (putC_ne hn1) hl kk, fun c => absurd (fun e => ?_) c⟩)
    have := (nI_eq (b := 6) (by omega) (by decide)).mp e
    omega
