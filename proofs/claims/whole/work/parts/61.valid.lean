/-! what accepted shields are like -/
def DuV (x : Int32) : Prop := x = -1 ∨ ∃ u, u < 9 ∧ x = nI u
/-- the cells of a part at place pl -/
def PV (pl : Nat) (r : Nat → Int32) : Prop := ∃ k t m w, r 0 = nI k ∧ r 1 = nI t ∧ r 2 = nI m ∧ r 3 = nI w ∧ t < 9 ∧ 1 ≤ m ∧ m ≤ 6 ∧ w ≤ 5 ∧ (∀ i, i < 5 → DuV (r (4 + i))) ∧ ((((pl = 0 ∧ 8 ≤ k ∧ k ≤ 14) ∨ (pl = 3 ∧ k = 7) ∨ (pl = 5 ∧ k = 15) ∨ (pl = 6 ∧ 20 ≤ k ∧ k ≤ 30)) ∧ m = 1 ∧ w = 0 ∧ ∀ i, i < 5 → r (4 + i) = -1) ∨ ((pl = 1 ∨ pl = 2 ∨ pl = 4) ∧ 16 ≤ k ∧ k ≤ 29))
theorem PV.k {pl : Nat} {r : Nat → Int32} (h : PV pl r) : ∃ k, r 0 = nI k ∧ 7 ≤ k ∧ k ≤ 30 := by
  obtain ⟨k, t, m, w, h0, h1, h2, h3, h4, h5, h6, h7, h8, h9⟩ := h
  exact ⟨k, h0, by omega, by omega⟩
theorem PV.n0 {pl : Nat} {r : Nat → Int32} (h : PV pl r) : ¬ r 0 = 0 := by
  obtain ⟨k, e, h1, h2⟩ := h.k
  rw [e]; exact nI_ne0 (by omega) (by omega)
theorem dutS_v {kd np : Nat → Nat} {kind : Nat} : ∀ {m d p p' : Nat} {r r' : Nat → Int32}, dutS kd np kind m d p r = (some r', p') → d + m ≤ 5 → (∀ i, i < 4 → r' i = r i) ∧ ((∀ i, i < 5 → DuV (r (4 + i))) → ∀ i, i < 5 → DuV (r' (4 + i)))
  | 0, d, p, p', r, r', e, hd => by
    unfold dutS at e
    have e1 := congrArg Prod.fst e
    have e2 : r = r' := Option.some.inj e1
    subst e2
    exact ⟨fun _ _ => rfl, fun h => h⟩
  | m + 1, d, p, p', r, r', e, hd => by
    unfold dutS at e
    by_cases c : haD kind d = true ∧ kd p = 65 + d
    · rw [if_pos c] at e
      by_cases c2 : kd (np p) < 9
      · rw [if_pos c2] at e
        obtain ⟨a1, a2⟩ := dutS_v e (by omega)
        refine ⟨fun i hi => by rw [a1 i hi, st_ne (by omega)], fun h => a2 (fun i hi => ?_)⟩
        by_cases z : i = d
        · rw [z, st_eq]; exact Or.inr ⟨_, c2, rfl⟩
        · rw [st_ne (by omega)]; exact h i hi
      · rw [if_neg c2] at e
        cases congrArg Prod.fst e
    · rw [if_neg c] at e
      exact dutS_v e (by omega)
theorem chg2_v {kd np : Nat → Nat} {kind p p' : Nat} {r r' : Nat → Int32} (e : chg2 kd np kind p r = (some r', p')) (hr : ∀ i, i < 5 → DuV (r (4 + i))) : r' 0 = r 0 ∧ (∃ t, t < 9 ∧ r' 1 = nI t) ∧ r' 2 = r 2 ∧ r' 3 = r 3 ∧ ∀ i, i < 5 → DuV (r' (4 + i)) := by
  unfold chg2 at e
  by_cases c : kd p < 9
  · rw [if_pos c] at e
    obtain ⟨a1, a2⟩ := dutS_v e (by decide)
    refine ⟨?_, ⟨_, c, ?_⟩, ?_, ?_, a2 (fun i hi => ?_)⟩
    · rw [a1 0 (by decide), st_ne (by decide)]
    · rw [a1 1 (by decide), st_eq]
    · rw [a1 2 (by decide), st_ne (by decide)]
    · rw [a1 3 (by decide), st_ne (by decide)]
    · rw [st_ne (by omega)]; exact hr i hi
  · rw [if_neg c] at e
    cases congrArg Prod.fst e
theorem em_d (i : Nat) : emR (4 + i) = -1 := if_neg (by omega)
theorem chgS_v {kd np : Nat → Nat} {kind m pl p p' : Nat} {r : Nat → Int32} (e : chgS kd np kind m p = (some r, p')) (h16 : 16 ≤ kind) (h29 : kind ≤ 29) (h1 : 1 ≤ m) (h6 : m ≤ 6) (hpl : pl = 1 ∨ pl = 2 ∨ pl = 4) : PV pl r := by
  unfold chgS at e
  by_cases c : kind ≤ 19
  · rw [if_pos c] at e
    by_cases c2 : atK kind (kd (np p)) = true
    · rw [if_pos c2] at e
      have hb : 60 ≤ kd (np p) ∧ kd (np p) ≤ 64 := by
        unfold atK at c2
        by_cases z : kind = 19
        · rw [if_pos z, decide_eq_true_eq] at c2; omega
        · rw [if_neg z, decide_eq_true_eq] at c2; omega
      obtain ⟨a0, ⟨t, ht, a1⟩, a2, a3, a4⟩ := chg2_v e (fun i hi => by rw [st_ne (by omega), st_ne (by omega), st_ne (by omega), em_d]; exact Or.inl rfl)
      refine ⟨kind, t, m, kd (np p) - 59, ?_, a1, ?_, ?_, ht, h1, h6, by omega, a4, Or.inr ⟨hpl, h16, h29⟩⟩
      · rw [a0, st_ne (by decide), st_ne (by decide), st_eq]
      · rw [a2, st_ne (by decide), st_eq]
      · rw [a3, st_eq]
    · rw [if_neg c2] at e
      cases congrArg Prod.fst e
  · rw [if_neg c] at e
    obtain ⟨a0, ⟨t, ht, a1⟩, a2, a3, a4⟩ := chg2_v e (fun i hi => by rw [st_ne (by omega), st_ne (by omega), em_d]; exact Or.inl rfl)
    refine ⟨kind, t, m, 0, ?_, a1, ?_, ?_, ht, h1, h6, by omega, a4, Or.inr ⟨hpl, h16, h29⟩⟩
    · rw [a0, st_ne (by decide), st_eq]
    · rw [a2, st_eq]
    · rw [a3, st_ne (by decide), st_ne (by decide)]; rfl
theorem chaS_v {kd np : Nat → Nat} {m pl q p p' : Nat} {r : Nat → Int32} (e : chaS kd np pl m p = (some (q, r), p')) (h1 : 1 ≤ m) (h6 : m ≤ 6) (hpl : pl = 1 ∨ pl = 2 ∨ pl = 4) : q = pl ∧ PV pl r := by
  unfold chaS at e
  by_cases c : nmK m (kd p) = 0
  · rw [if_pos c] at e
    cases congrArg Prod.fst e
  · rw [if_neg c] at e
    have hb := nmK_b m (kd p)
    cases hc : chgS kd np (nmK m (kd p)) m p with
    | mk o q2 =>
      rw [hc] at e
      cases o with
      | none => cases congrArg Prod.fst e
      | some r2 =>
        have e1 : some (pl, r2) = some (q, r) := congrArg Prod.fst e
        have e2 := Option.some.inj e1
        have e3 : pl = q := congrArg Prod.fst e2
        have e4 : r2 = r := congrArg Prod.snd e2
        subst e3 e4
        exact ⟨rfl, chgS_v hc (by omega) (by omega) h1 h6 hpl⟩
theorem plaS_v {kd np : Nat → Nat} {kind pl q p p' : Nat} {r : Nat → Int32} (e : plaS kd np pl kind p = (some (q, r), p')) (h : (pl = 0 ∧ 8 ≤ kind ∧ kind ≤ 14) ∨ (pl = 3 ∧ kind = 7) ∨ (pl = 5 ∧ kind = 15) ∨ (pl = 6 ∧ 20 ≤ kind ∧ kind ≤ 30)) : q = pl ∧ PV pl r := by
  unfold plaS at e
  by_cases c : kd p < 9
  · rw [if_pos c] at e
    have e1 := congrArg Prod.fst e
    have e2 := Option.some.inj e1
    have e3 : pl = q := congrArg Prod.fst e2
    have e4 : st (st (st emR 0 (nI kind)) 1 (nI (kd p))) 2 1 = r := congrArg Prod.snd e2
    subst e3 e4
    refine ⟨rfl, kind, kd p, 1, 0, ?_, ?_, ?_, ?_, c, by decide, by decide, by decide, fun i hi => ?_, Or.inl ⟨h, rfl, rfl, fun i hi => ?_⟩⟩
    · rw [st_ne (by decide), st_ne (by decide), st_eq]
    · rw [st_ne (by decide), st_eq]
    · rw [st_eq]; rfl
    · rw [st_ne (by decide), st_ne (by decide), st_ne (by decide)]; rfl
    · rw [st_ne (by omega), st_ne (by omega), st_ne (by omega), em_d]; exact Or.inl rfl
    · rw [st_ne (by omega), st_ne (by omega), st_ne (by omega), em_d]
  · rw [if_neg c] at e
    cases congrArg Prod.fst e
theorem memS_v {kd np : Nat → Nat} {l p p' pl : Nat} {r : Nat → Int32} (e : memS kd np l p = (some (pl, r), p')) (hl : l ≤ 7) : PV pl r ∧ l ≤ pl ∧ pl < 7 ∧ (pl = 1 → l = 1) ∧ (pl = 4 → l = 4) := by
  unfold memS at e
  by_cases c : (l = 1 ∨ l = 4) ∧ kd p = 79
  · rw [if_pos c] at e
    unfold onS at e
    by_cases c2 : kd (np p) = 80
    · rw [if_pos c2] at e
      by_cases c3 : 54 ≤ kd (np (np p)) ∧ kd (np (np p)) < 60
      · rw [if_pos c3] at e
        obtain ⟨e1, e2⟩ := chaS_v e (by omega) (by omega) (by omega)
        subst e1
        exact ⟨e2, by omega, by omega, by omega, by omega⟩
      · rw [if_neg c3] at e; cases congrArg Prod.fst e
    · rw [if_neg c2] at e; cases congrArg Prod.fst e
  · rw [if_neg c] at e
    by_cases c1 : l = 7 ∨ ¬ kd p = 344
    · rw [if_pos c1] at e; cases congrArg Prod.fst e
    · rw [if_neg c1] at e
      unfold comS at e
      by_cases c2 : kd (np p) = 76 ∧ l ≤ 5
      · rw [if_pos c2] at e
        unfold borS at e
        by_cases c3 : kd (np (np p)) = 54
        · rw [if_pos c3] at e
          by_cases c4 : kd (np (np (np p))) = 24
          · rw [if_pos c4] at e
            obtain ⟨e1, e2⟩ := plaS_v e (by omega)
            subst e1
            exact ⟨e2, by omega, by omega, by omega, by omega⟩
          · rw [if_neg c4] at e; cases congrArg Prod.fst e
        · rw [if_neg c3] at e; cases congrArg Prod.fst e
      · rw [if_neg c2] at e
        by_cases c3 : kd (np p) = 77 ∧ l ≤ 6
        · rw [if_pos c3] at e
          unfold marS at e
          by_cases c4 : kd (np (np p)) = 81
          · rw [if_pos c4] at e
            by_cases c5 : kd (np (np (np p))) = 54
            · rw [if_pos c5] at e
              by_cases c6 : isM (kd (np (np (np (np p))))) = true
              · rw [if_pos c6] at e
                have hb : 29 ≤ kd (np (np (np (np p)))) ∧ kd (np (np (np (np p)))) ≤ 39 := by
                  unfold isM at c6
                  simp only [Bool.or_eq_true, beq_iff_eq] at c6
                  omega
                obtain ⟨e1, e2⟩ := plaS_v e (by omega)
                subst e1
                exact ⟨e2, by omega, by omega, by omega, by omega⟩
              · rw [if_neg c6] at e; cases congrArg Prod.fst e
            · rw [if_neg c5] at e; cases congrArg Prod.fst e
          · rw [if_neg c4] at e; cases congrArg Prod.fst e
        · rw [if_neg c3] at e
          by_cases c4 : (kd (np p) = 54 ∧ l ≤ 3) ∨ (55 ≤ kd (np p) ∧ kd (np p) < 60 ∧ l ≤ 2)
          · rw [if_pos c4] at e
            unfold nexS at e
            by_cases c5 : kd (np p) - 54 = 0 ∧ 17 ≤ kd (np (np p)) ∧ kd (np (np p)) ≤ 23 ∧ l = 0
            · rw [if_pos c5] at e
              obtain ⟨e1, e2⟩ := plaS_v e (by omega)
              subst e1
              exact ⟨e2, by omega, by omega, by omega, by omega⟩
            · rw [if_neg c5] at e
              by_cases c6 : kd (np p) - 54 = 0 ∧ kd (np (np p)) = 16
              · rw [if_pos c6] at e
                obtain ⟨e1, e2⟩ := plaS_v e (by omega)
                subst e1
                exact ⟨e2, by omega, by omega, by omega, by omega⟩
              · rw [if_neg c6] at e
                by_cases c7 : l ≤ 2
                · rw [if_pos c7] at e
                  obtain ⟨e1, e2⟩ := chaS_v e (by omega) (by omega) (by omega)
                  subst e1
                  exact ⟨e2, by omega, by omega, by omega, by omega⟩
                · rw [if_neg c7] at e; cases congrArg Prod.fst e
          · rw [if_neg c4] at e; cases congrArg Prod.fst e
