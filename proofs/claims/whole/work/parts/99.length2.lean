/-! how long a shield's text is: parts, and what accepted shields are -/
theorem tk_s {tx : Nat → Int32} {n p c : Nat} (E : Eb tx n p) (hk : kd tx n p = c) (hw : c < 92) : p + cst c ≤ np tx n p ∧ Eb tx n (np tx n p) := by
  subst hk
  obtain ⟨t1, E1⟩ := tk_w1 E hw
  exact ⟨by rw [cst_w (by omega)]; omega, E1⟩
theorem tk_0 {tx : Nat → Int32} {n p c : Nat} (hp : p ≤ n) (hk : kd tx n p = c) (hw : c < 92) : p + cst c ≤ np tx n p + 1 ∧ Eb tx n (np tx n p) := by
  subst hk
  obtain ⟨t1, t2, E1, t4⟩ := tk_w hp hw
  exact ⟨by rw [cst_w (by omega)]; omega, E1⟩
theorem dutS_c {tx : Nat → Int32} {n kind : Nat} : ∀ {m d p p' : Nat} {r r' : Nat → Int32}, dutS (kd tx n) (np tx n) kind m d p r = (some r', p') → d + m ≤ 5 → Eb tx n p → (∀ i, d ≤ i → i < 5 → r (4 + i) = -1) → p + csL (duT r' m d) ≤ p' ∧ Eb tx n p' ∧ (∀ i, i < 4 + d → r' i = r i)
  | 0, d, p, p', r, r', e, hd, E, hr => by
    have e1 : r = r' := Option.some.inj (congrArg Prod.fst e)
    have e2 : p = p' := congrArg Prod.snd e
    subst e1 e2
    exact ⟨Nat.le_refl _, E, fun _ _ => rfl⟩
  | m + 1, d, p, p', r, r', e, hd, E, hr => by
    unfold dutS at e
    by_cases c : haD kind d = true ∧ kd tx n p = 65 + d
    · rw [if_pos c] at e
      by_cases c2 : kd tx n (np tx n p) < 9
      · rw [if_pos c2] at e
        obtain ⟨t1, E1⟩ := tk_s E c.2 (by omega)
        obtain ⟨t2, E2⟩ := tk_s E1 rfl (by omega)
        obtain ⟨a1, a2, a3⟩ := dutS_c e (by omega) E2 (fun i h1 h2 => by rw [st_ne (by omega)]; exact hr i (by omega) h2)
        have hv : r' (4 + d) = nI (kd tx n (np tx n p)) := by rw [a3 (4 + d) (by omega), st_eq]
        refine ⟨?_, a2, fun i hi => by rw [a3 i (by omega), st_ne (by omega)]⟩
        show p + csL ((if r' (4 + d) = -1 then [] else [65 + d, ix (r' (4 + d))]) ++ duT r' m (d + 1)) ≤ p'
        rw [hv, if_neg (nI_m1 (by omega)), ix_nI (by omega), csL_app, csL_1, csL_1, csL_0]
        omega
      · rw [if_neg c2] at e
        cases congrArg Prod.fst e
    · rw [if_neg c] at e
      obtain ⟨a1, a2, a3⟩ := dutS_c e (by omega) E (fun i h1 h2 => hr i (by omega) h2)
      have hv : r' (4 + d) = -1 := by rw [a3 (4 + d) (by omega), hr d (Nat.le_refl _) (by omega)]
      refine ⟨?_, a2, fun i hi => a3 i (by omega)⟩
      show p + csL ((if r' (4 + d) = -1 then [] else [65 + d, ix (r' (4 + d))]) ++ duT r' m (d + 1)) ≤ p'
      rw [hv, if_pos rfl]
      exact a1
theorem chg2_c {tx : Nat → Int32} {n kind p p' : Nat} {r r' : Nat → Int32} (e : chg2 (kd tx n) (np tx n) kind p r = (some r', p')) (E : Eb tx n p) (hr : ∀ i, i < 5 → r (4 + i) = -1) : p + csL (ix (r' 1) :: duT r' 5 0) ≤ p' ∧ Eb tx n p' ∧ r' 0 = r 0 ∧ r' 2 = r 2 ∧ r' 3 = r 3 := by
  unfold chg2 at e
  by_cases c : kd tx n p < 9
  · rw [if_pos c] at e
    obtain ⟨t1, E1⟩ := tk_s E rfl (by omega)
    obtain ⟨a1, a2, a3⟩ := dutS_c e (by decide) E1 (fun i h1 h2 => by rw [st_ne (by omega)]; exact hr i h2)
    have hv : r' 1 = nI (kd tx n p) := by rw [a3 1 (by decide), st_eq]
    refine ⟨?_, a2, ?_, ?_, ?_⟩
    · rw [hv, ix_nI (by omega), csL_1]
      omega
    · rw [a3 0 (by decide), st_ne (by decide)]
    · rw [a3 2 (by decide), st_ne (by decide)]
    · rw [a3 3 (by decide), st_ne (by decide)]
  · rw [if_neg c] at e
    cases congrArg Prod.fst e
theorem chgS_c {tx : Nat → Int32} {n kind m p p' : Nat} {r : Nat → Int32} (e : chgS (kd tx n) (np tx n) kind m p = (some r, p')) (E : Eb tx n (np tx n p)) : np tx n p + csL (attT (ix (r 3)) ++ ix (r 1) :: duT r 5 0) ≤ p' ∧ Eb tx n p' ∧ r 0 = nI kind ∧ r 2 = nI m := by
  unfold chgS at e
  by_cases c : kind ≤ 19
  · rw [if_pos c] at e
    by_cases c2 : atK kind (kd tx n (np tx n p)) = true
    · rw [if_pos c2] at e
      have hb : 60 ≤ kd tx n (np tx n p) ∧ kd tx n (np tx n p) ≤ 64 := by
        unfold atK at c2
        by_cases z : kind = 19
        · rw [if_pos z, decide_eq_true_eq] at c2; omega
        · rw [if_neg z, decide_eq_true_eq] at c2; omega
      obtain ⟨t1, E1⟩ := tk_s E rfl (by omega)
      obtain ⟨a1, a2, a3, a4, a5⟩ := chg2_c e E1 (fun i hi => by rw [st_ne (by omega), st_ne (by omega), st_ne (by omega), em_d])
      refine ⟨?_, a2, ?_, ?_⟩
      · rw [a5, st_eq, ix_nI (by omega)]
        unfold attT
        rw [if_neg (by omega), show 59 + (kd tx n (np tx n p) - 59) = kd tx n (np tx n p) by omega, csL_app, csL_1 (kd tx n (np tx n p)) [], csL_0]
        omega
      · rw [a3, st_ne (by decide), st_ne (by decide), st_eq]
      · rw [a4, st_ne (by decide), st_eq]
    · rw [if_neg c2] at e
      cases congrArg Prod.fst e
  · rw [if_neg c] at e
    obtain ⟨a1, a2, a3, a4, a5⟩ := chg2_c e E (fun i hi => by rw [st_ne (by omega), st_ne (by omega), em_d])
    refine ⟨?_, a2, ?_, ?_⟩
    · rw [a5, st_ne (by decide), st_ne (by decide)]
      exact a1
    · rw [a3, st_ne (by decide), st_eq]
    · rw [a4, st_eq]
theorem nmK_c {m c : Nat} (h1 : 1 ≤ m) (h : ¬ nmK m c = 0) : nT (nmK m c) m = c ∧ c < 92 ∧ nmK m c < 31 := by
  unfold nmK at h ⊢
  unfold nT
  by_cases z : m = 1
  · rw [if_pos z] at h ⊢
    rw [if_pos z]
    by_cases y : 25 ≤ c ∧ c < 39
    · rw [if_pos y]; omega
    · rw [if_neg y] at h; exact absurd rfl h
  · rw [if_neg z] at h ⊢
    rw [if_neg z]
    by_cases y : 40 ≤ c ∧ c < 54
    · rw [if_pos y]; omega
    · rw [if_neg y] at h; exact absurd rfl h
theorem chaS_c {tx : Nat → Int32} {n m pl q p p' : Nat} {r : Nat → Int32} (e : chaS (kd tx n) (np tx n) pl m p = (some (q, r), p')) (h1 : 1 ≤ m) (h6 : m ≤ 6) (E : Eb tx n p) : p + csL (cT r) ≤ p' + cst (53 + m) ∧ Eb tx n p' := by
  unfold chaS at e
  by_cases c : nmK m (kd tx n p) = 0
  · rw [if_pos c] at e
    cases congrArg Prod.fst e
  · rw [if_neg c] at e
    obtain ⟨n1, n2, n3⟩ := nmK_c h1 c
    cases hc : chgS (kd tx n) (np tx n) (nmK m (kd tx n p)) m p with
    | mk o q2 =>
      rw [hc] at e
      cases o with
      | none => cases congrArg Prod.fst e
      | some r2 =>
        obtain ⟨e0, e5⟩ := Prod.mk.inj e
        have e2 : (pl, r2) = (q, r) := Option.some.inj e0
        have e4 := (Prod.mk.inj e2).2
        subst e4
        have e5 : q2 = p' := e5
        subst e5
        obtain ⟨t1, E1⟩ := tk_s E rfl n2
        obtain ⟨a1, a2, a3, a4⟩ := chgS_c hc E1
        refine ⟨?_, a2⟩
        unfold cT
        rw [a3, a4, ix_nI (by omega), ix_nI (by omega), n1, csL_1, csL_1]
        omega
theorem plaS_c {tx : Nat → Int32} {n kind pl q p p' : Nat} {r : Nat → Int32} (e : plaS (kd tx n) (np tx n) pl kind p = (some (q, r), p')) (hk : kind < 31) (E : Eb tx n p) : p + csL (cT r) ≤ p' + (cst 54 + cst (9 + kind)) ∧ Eb tx n p' := by
  unfold plaS at e
  by_cases c : kd tx n p < 9
  · rw [if_pos c] at e
    obtain ⟨e0, e5⟩ := Prod.mk.inj e
    have e4 := (Prod.mk.inj (Option.some.inj e0)).2
    subst e4 e5
    obtain ⟨t1, E1⟩ := tk_s E rfl (by omega)
    refine ⟨?_, E1⟩
    have hd : duT (st (st (st emR 0 (nI kind)) 1 (nI (kd tx n p))) 2 1) 5 0 = [] := duT_no (fun i hi => by rw [st_ne (by omega), st_ne (by omega), st_ne (by omega), em_d])
    unfold cT
    rw [hd, st_eq, st_ne (by decide), st_ne (by decide), st_eq, st_ne (show 3 ≠ 2 by decide), st_ne (show 3 ≠ 1 by decide), st_ne (show 3 ≠ 0 by decide), st_ne (show 1 ≠ 2 by decide), st_eq, ix_nI (by omega), ix_nI (by omega)]
    have h3 : attT (ix (emR 3)) = [] := by decide +kernel
    have h1 : ix (1 : Int32) = 1 := by decide +kernel
    rw [h3, h1]
    unfold nT
    rw [if_pos rfl, csL_1, csL_1]
    show p + (cst 54 + (cst (9 + kind) + csL [kd tx n p])) ≤ _
    rw [csL_1, csL_0]
    omega
  · rw [if_neg c] at e
    cases congrArg Prod.fst e
theorem hT_c {pl : Nat} (h : pl = 1 ∨ pl = 4) : hT pl = [79, 80] := if_pos h
theorem hT_n {pl : Nat} (h : ¬ (pl = 1 ∨ pl = 4)) : hT pl = [344] := if_neg h
theorem cst344 : cst 344 = 1 := if_pos rfl
theorem memS_c {tx : Nat → Int32} {n l p p' pl : Nat} {r : Nat → Int32} (e : memS (kd tx n) (np tx n) l p = (some (pl, r), p')) (hl : l ≤ 7) (E : Eb tx n p) : p + csL (pT pl r) ≤ p' + 1 ∧ Eb tx n p' := by
  unfold memS at e
  by_cases c : (l = 1 ∨ l = 4) ∧ kd tx n p = 79
  · rw [if_pos c] at e
    unfold onS at e
    by_cases c2 : kd tx n (np tx n p) = 80
    · rw [if_pos c2] at e
      by_cases c3 : 54 ≤ kd tx n (np tx n (np tx n p)) ∧ kd tx n (np tx n (np tx n p)) < 60
      · rw [if_pos c3] at e
        have hq := (chaS_v e (by omega) (by omega) (by omega)).1
        obtain ⟨t1, E1⟩ := tk_s E c.2 (by decide)
        obtain ⟨t2, E2⟩ := tk_s E1 c2 (by decide)
        obtain ⟨t3, E3⟩ := tk_s E2 rfl (by omega)
        obtain ⟨a1, a2⟩ := chaS_c e (by omega) (by omega) E3
        rw [show 53 + (kd tx n (np tx n (np tx n p)) - 53) = kd tx n (np tx n (np tx n p)) by omega] at a1
        refine ⟨?_, a2⟩
        unfold pT gT
        rw [hT_c (by omega), if_neg (by omega), if_neg (by omega), csL_app, csL_app, csL_1, csL_1, csL_0]
        omega
      · rw [if_neg c3] at e; cases congrArg Prod.fst e
    · rw [if_neg c2] at e; cases congrArg Prod.fst e
  · rw [if_neg c] at e
    by_cases c1 : l = 7 ∨ ¬ kd tx n p = 344
    · rw [if_pos c1] at e; cases congrArg Prod.fst e
    · rw [if_neg c1] at e
      obtain ⟨t0, hp1⟩ := tk_c E.1 (show kd tx n p = 344 by omega)
      unfold comS at e
      by_cases c2 : kd tx n (np tx n p) = 76 ∧ l ≤ 5
      · rw [if_pos c2] at e
        unfold borS at e
        by_cases c3 : kd tx n (np tx n (np tx n p)) = 54
        · rw [if_pos c3] at e
          by_cases c4 : kd tx n (np tx n (np tx n (np tx n p))) = 24
          · rw [if_pos c4] at e
            have hq := (plaS_v e (by omega)).1
            obtain ⟨t1, E1⟩ := tk_0 hp1 c2.1 (by decide)
            obtain ⟨t2, E2⟩ := tk_s E1 c3 (by decide)
            obtain ⟨t3, E3⟩ := tk_s E2 c4 (by decide)
            obtain ⟨a1, a2⟩ := plaS_c e (by decide) E3
            have h24 : 9 + 15 = 24 := rfl
            rw [h24] at a1
            refine ⟨?_, a2⟩
            unfold pT gT
            rw [hT_n (by omega), if_pos hq, csL_app, csL_app, csL_1, csL_1, csL_0, cst344]
            omega
          · rw [if_neg c4] at e; cases congrArg Prod.fst e
        · rw [if_neg c3] at e; cases congrArg Prod.fst e
      · rw [if_neg c2] at e
        by_cases c3 : kd tx n (np tx n p) = 77 ∧ l ≤ 6
        · rw [if_pos c3] at e
          unfold marS at e
          by_cases c4 : kd tx n (np tx n (np tx n p)) = 81
          · rw [if_pos c4] at e
            by_cases c5 : kd tx n (np tx n (np tx n (np tx n p))) = 54
            · rw [if_pos c5] at e
              by_cases c6 : isM (kd tx n (np tx n (np tx n (np tx n (np tx n p))))) = true
              · rw [if_pos c6] at e
                have hb : 29 ≤ kd tx n (np tx n (np tx n (np tx n (np tx n p)))) ∧ kd tx n (np tx n (np tx n (np tx n (np tx n p)))) ≤ 39 := by
                  unfold isM at c6
                  simp only [Bool.or_eq_true, beq_iff_eq] at c6
                  omega
                have hq := (plaS_v e (by omega)).1
                obtain ⟨t1, E1⟩ := tk_0 hp1 c3.1 (by decide)
                obtain ⟨t2, E2⟩ := tk_s E1 c4 (by decide)
                obtain ⟨t3, E3⟩ := tk_s E2 c5 (by decide)
                obtain ⟨t4, E4⟩ := tk_s E3 rfl (by omega)
                obtain ⟨a1, a2⟩ := plaS_c e (by omega) E4
                rw [show 9 + (kd tx n (np tx n (np tx n (np tx n (np tx n p)))) - 9) = kd tx n (np tx n (np tx n (np tx n (np tx n p)))) by omega] at a1
                refine ⟨?_, a2⟩
                unfold pT gT
                rw [hT_n (by omega), if_neg (by omega), if_pos hq, csL_app, csL_app, csL_1, csL_1, csL_1, csL_0, cst344]
                omega
              · rw [if_neg c6] at e; cases congrArg Prod.fst e
            · rw [if_neg c5] at e; cases congrArg Prod.fst e
          · rw [if_neg c4] at e; cases congrArg Prod.fst e
        · rw [if_neg c3] at e
          by_cases c4 : (kd tx n (np tx n p) = 54 ∧ l ≤ 3) ∨ (55 ≤ kd tx n (np tx n p) ∧ kd tx n (np tx n p) < 60 ∧ l ≤ 2)
          · rw [if_pos c4] at e
            unfold nexS at e
            obtain ⟨t1, E1⟩ := tk_0 hp1 (c := kd tx n (np tx n p)) rfl (by omega)
            by_cases c5 : kd tx n (np tx n p) - 54 = 0 ∧ 17 ≤ kd tx n (np tx n (np tx n p)) ∧ kd tx n (np tx n (np tx n p)) ≤ 23 ∧ l = 0
            · rw [if_pos c5] at e
              have hq := (plaS_v e (by omega)).1
              have c54 : kd tx n (np tx n p) = 54 := by omega
              rw [c54] at t1
              obtain ⟨t2, E2⟩ := tk_s E1 rfl (by omega)
              obtain ⟨a1, a2⟩ := plaS_c e (by omega) E2
              rw [show 9 + (kd tx n (np tx n (np tx n p)) - 9) = kd tx n (np tx n (np tx n p)) by omega] at a1
              refine ⟨?_, a2⟩
              unfold pT gT
              rw [hT_n (by omega), if_neg (by omega), if_neg (by omega), csL_app, csL_app, csL_1, csL_0, cst344]
              omega
            · rw [if_neg c5] at e
              by_cases c6 : kd tx n (np tx n p) - 54 = 0 ∧ kd tx n (np tx n (np tx n p)) = 16
              · rw [if_pos c6] at e
                have hq := (plaS_v e (by omega)).1
                have c54 : kd tx n (np tx n p) = 54 := by omega
                rw [c54] at t1
                obtain ⟨t2, E2⟩ := tk_s E1 c6.2 (by decide)
                obtain ⟨a1, a2⟩ := plaS_c e (by decide) E2
                have h16 : 9 + 7 = 16 := rfl
                rw [h16] at a1
                refine ⟨?_, a2⟩
                unfold pT gT
                rw [hT_n (by omega), if_neg (by omega), if_neg (by omega), csL_app, csL_app, csL_1, csL_0, cst344]
                omega
              · rw [if_neg c6] at e
                by_cases c7 : l ≤ 2
                · rw [if_pos c7] at e
                  have hq := (chaS_v e (by omega) (by omega) (by omega)).1
                  obtain ⟨a1, a2⟩ := chaS_c e (by omega) (by omega) E1
                  rw [show 53 + (kd tx n (np tx n p) - 54 + 1) = kd tx n (np tx n p) by omega] at a1
                  refine ⟨?_, a2⟩
                  unfold pT gT
                  rw [hT_n (by omega), if_neg (by omega), if_neg (by omega), csL_app, csL_app, csL_1, csL_0, cst344]
                  omega
                · rw [if_neg c7] at e; cases congrArg Prod.fst e
          · rw [if_neg c4] at e; cases congrArg Prod.fst e
/-! the cells of parts put -/
theorem put_o {sh : Nat → Int32} {pl pl' i : Nat} {r : Nat → Int32} (h : pl' ≠ pl) (hi : i < 9) : putS sh pl r (3 + 9 * pl' + i) = sh (3 + 9 * pl' + i) := if_neg (by omega)
theorem put_o0 {sh : Nat → Int32} {pl pl' : Nat} {r : Nat → Int32} (h : pl' ≠ pl) : putS sh pl r (3 + 9 * pl') = sh (3 + 9 * pl') := if_neg (by omega)
theorem put_i0 (sh : Nat → Int32) (pl : Nat) (r : Nat → Int32) : putS sh pl r (3 + 9 * pl) = r 0 := by
  have := put_in sh pl r (i := 0) (by decide)
  exact this
theorem duT_ext {r r' : Nat → Int32} : ∀ {m t : Nat}, t + m ≤ 5 → (∀ i, i < 9 → r i = r' i) → duT r m t = duT r' m t
  | 0, _, _, _ => rfl
  | m + 1, t, ht, h => by
    show (if r (4 + t) = -1 then [] else [65 + t, ix (r (4 + t))]) ++ duT r m (t + 1) = (if r' (4 + t) = -1 then [] else [65 + t, ix (r' (4 + t))]) ++ duT r' m (t + 1)
    rw [h (4 + t) (by omega), duT_ext (by omega) h]
theorem pT_ext {pl : Nat} {r r' : Nat → Int32} (h : ∀ i, i < 9 → r i = r' i) : pT pl r = pT pl r' := by
  unfold pT cT
  rw [h 0 (by decide), h 1 (by decide), h 2 (by decide), h 3 (by decide), duT_ext (by decide) h]
theorem paT_o {sh r : Nat → Int32} {pl : Nat} : ∀ {m t : Nat}, pl < t → paT (putS sh pl r) m t = paT sh m t
  | 0, _, _ => rfl
  | m + 1, t, ht => by
    show (if putS sh pl r (3 + 9 * t) = 0 then [] else pT t (fun i => putS sh pl r (3 + 9 * t + i))) ++ paT (putS sh pl r) m (t + 1) = (if sh (3 + 9 * t) = 0 then [] else pT t (fun i => sh (3 + 9 * t + i))) ++ paT sh m (t + 1)
    rw [put_o0 (by omega), paT_o (by omega), pT_ext (fun i hi => put_o (by omega) hi)]
theorem paT_p {sh r : Nat → Int32} {pl : Nat} (h0 : sh (3 + 9 * pl) = 0) (hr : ¬ r 0 = 0) : ∀ {m t : Nat}, t ≤ pl → pl < t + m → csL (paT (putS sh pl r) m t) = csL (paT sh m t) + csL (pT pl r)
  | 0, _, h1, h2 => by omega
  | m + 1, t, h1, h2 => by
    show csL ((if putS sh pl r (3 + 9 * t) = 0 then [] else pT t (fun i => putS sh pl r (3 + 9 * t + i))) ++ paT (putS sh pl r) m (t + 1)) = csL ((if sh (3 + 9 * t) = 0 then [] else pT t (fun i => sh (3 + 9 * t + i))) ++ paT sh m (t + 1)) + csL (pT pl r)
    by_cases z : t = pl
    · subst z
      rw [put_i0, if_neg hr, if_pos h0, paT_o (by omega), csL_app, csL_app, csL_0, pT_ext (r' := r) (fun i hi => put_in sh t r hi)]
      omega
    · rw [put_o0 z, csL_app, csL_app, paT_p h0 hr (by omega) (by omega), pT_ext (fun i hi => put_o z hi)]
      omega
theorem paT_em {sh : Nat → Int32} : ∀ {m t : Nat}, (∀ pl, t ≤ pl → pl < t + m → sh (3 + 9 * pl) = 0) → paT sh m t = []
  | 0, _, _ => rfl
  | m + 1, t, h => by
    show (if sh (3 + 9 * t) = 0 then [] else pT t (fun i => sh (3 + 9 * t + i))) ++ paT sh m (t + 1) = []
    rw [if_pos (h t (Nat.le_refl _) (by omega)), paT_em (fun pl h1 h2 => h pl (by omega) (by omega))]
    rfl
/-- what is known of the cells on the way: the parts below place l, nothing from there on -/
def LoI (sh : Nat → Int32) (l : Nat) : Prop := (∀ pl, pl < 7 → (∀ i, i < 9 → sh (3 + 9 * pl + i) = emR i) ∨ PV pl (fun i => sh (3 + 9 * pl + i))) ∧ (∀ pl, l ≤ pl → pl < 7 → ∀ i, i < 9 → sh (3 + 9 * pl + i) = emR i) ∧ OnV sh ∧ (l = 1 → ¬ sh 3 = 0) ∧ (l = 4 → ¬ sh 30 = 0)
theorem LoI.put {sh r : Nat → Int32} {l pl : Nat} (I : LoI sh l) (hv : PV pl r) (h1 : l ≤ pl) (h2 : pl < 7) (h3 : pl = 1 → l = 1) (h4 : pl = 4 → l = 4) : LoI (putS sh pl r) (pl + 1) := by
  obtain ⟨i1, i2, i3, i4, i5⟩ := I
  have n0 := hv.n0
  have o3 : ∀ q, q ≠ pl → putS sh pl r (3 + 9 * q) = sh (3 + 9 * q) := fun q hq => put_o0 hq
  refine ⟨fun q hq => ?_, fun q hq1 hq2 i hi => ?_, ⟨fun z => ?_, fun z => ?_⟩, fun z => ?_, fun z => ?_⟩
  · by_cases z : q = pl
    · subst z
      exact Or.inr (hv.ext (fun i hi => put_in sh q r hi))
    · rcases i1 q hq with y | y
      · exact Or.inl (fun i hi => by rw [put_o z hi]; exact y i hi)
      · exact Or.inr (y.ext (fun i hi => put_o z hi))
  · rw [put_o (by omega) hi]
    exact i2 q (by omega) hq2 i hi
  · by_cases z0 : pl = 0
    · subst z0
      show ¬ putS sh 0 r (3 + 9 * 0) = 0
      rw [put_i0]; exact n0
    · have e := o3 0 (by omega)
      show ¬ putS sh pl r (3 + 9 * 0) = 0
      rw [e]
      by_cases z1 : pl = 1
      · exact i4 (h3 z1)
      · exact i3.1 (fun y => z (by
          show putS sh pl r (3 + 9 * 1) = 0
          rw [o3 1 (by omega)]; exact y))
  · by_cases z0 : pl = 3
    · subst z0
      show ¬ putS sh 3 r (3 + 9 * 3) = 0
      rw [put_i0]; exact n0
    · have e := o3 3 (by omega)
      show ¬ putS sh pl r (3 + 9 * 3) = 0
      rw [e]
      by_cases z1 : pl = 4
      · exact i5 (h4 z1)
      · exact i3.2 (fun y => z (by
          show putS sh pl r (3 + 9 * 4) = 0
          rw [o3 4 (by omega)]; exact y))
  · have z0 : pl = 0 := by omega
    subst z0
    show ¬ putS sh 0 r (3 + 9 * 0) = 0
    rw [put_i0]; exact n0
  · have z0 : pl = 3 := by omega
    subst z0
    show ¬ putS sh 3 r (3 + 9 * 3) = 0
    rw [put_i0]; exact n0
theorem looS_c {tx : Nat → Int32} {n : Nat} : ∀ {f l p p' : Nat} {sh sh' : Nat → Int32}, looS (kd tx n) (np tx n) f l p sh = (some sh', p') → l ≤ 7 → Eb tx n p → LoI sh l → p + csL (paT sh' 7 0) ≤ p' + csL (paT sh 7 0) + f ∧ Eb tx n p' ∧ LoI sh' 7 ∧ ∀ j, j < 3 → sh' j = sh j
  | 0, l, p, p', sh, sh', e, hl, E, I => by
    unfold looS at e
    by_cases c : kd tx n p = 200
    · rw [if_pos c] at e
      have e1 : sh = sh' := Option.some.inj (congrArg Prod.fst e)
      have e2 : p = p' := congrArg Prod.snd e
      subst e1 e2
      obtain ⟨i1, i2, i3, i4, i5⟩ := I
      exact ⟨by omega, E, ⟨i1, fun pl h1 h2 => by omega, i3, by omega, by omega⟩, fun _ _ => rfl⟩
    · rw [if_neg c] at e
      cases congrArg Prod.fst e
  | f + 1, l, p, p', sh, sh', e, hl, E, I => by
    by_cases c : kd tx n p = 200
    · rw [looS_eq, if_pos c] at e
      have e1 : sh = sh' := Option.some.inj (congrArg Prod.fst e)
      have e2 : p = p' := congrArg Prod.snd e
      subst e1 e2
      obtain ⟨i1, i2, i3, i4, i5⟩ := I
      exact ⟨by omega, E, ⟨i1, fun pl h1 h2 => by omega, i3, by omega, by omega⟩, fun _ _ => rfl⟩
    · cases hm : memS (kd tx n) (np tx n) l p with
      | mk o q =>
        cases o with
        | none =>
          rw [looS_n c hm] at e
          cases congrArg Prod.fst e
        | some u =>
          obtain ⟨pl, r⟩ := u
          rw [looS_s c hm] at e
          obtain ⟨v1, v2, v3, v4, v5⟩ := memS_v hm hl
          obtain ⟨a1, E1⟩ := memS_c hm hl E
          have he := I.2.1 pl v2 v3
          obtain ⟨b1, b2, b3, b4⟩ := looS_c e (by omega) E1 (I.put v1 v2 v3 v4 v5)
          have hp := paT_p (sh := sh) (r := r) (pl := pl) (he 0 (by decide)) v1.n0 (m := 7) (t := 0) (Nat.zero_le _) (by omega)
          refine ⟨by omega, b2, b3, fun j hj => ?_⟩
          rw [b4 j hj]
          exact if_neg (by omega)
/-- a shield that was accepted -/
def Acc (sh : Nat → Int32) : Prop := ShV sh ∧ FwV sh ∧ OnV sh ∧ FtV sh ∧ FdV sh ∧ (wrS sh).length ≤ 256
theorem shiS_acc {tx : Nat → Int32} {n p : Nat} {sh : Nat → Int32} (e : shiS (kd tx n) (np tx n) = (some sh, p)) (hn : n ≤ 240) : Acc sh := by
  unfold shiS at e
  cases hf : fldS (kd tx n) (np tx n) 0 with
  | mk o q =>
    rw [hf] at e
    cases o with
    | none => cases congrArg Prod.fst e
    | some u =>
      obtain ⟨a, b, c⟩ := u
      obtain ⟨f1, f2, f3, f4, E⟩ := fldS_c hf
      have hin : LoI (iniS a b c) 0 := by
        have hall : ∀ pl, pl < 7 → ∀ i, i < 9 → iniS a b c (3 + 9 * pl + i) = emR i := fun pl hpl i hi => by
          unfold iniS
          rw [if_neg (by omega), if_neg (by omega), if_neg (by omega), show (3 + 9 * pl + i - 3) % 9 = i by omega]
        refine ⟨fun pl hpl => Or.inl (hall pl hpl), fun pl _ hpl => hall pl hpl, ⟨fun z => absurd rfl z, fun z => absurd rfl z⟩, by omega, by omega⟩
      obtain ⟨b1, b2, b3, b4⟩ := looS_c (sh := iniS a b c) e (by decide) E hin
      have hem : paT (iniS a b c) 7 0 = [] := paT_em (fun pl _ h2 => hin.2.1 pl (Nat.zero_le _) (by omega) 0 (by decide))
      rw [hem, csL_0] at b1
      have s0 : sh 0 = nI a := b4 0 (by decide)
      have s1 : sh 1 = nI b := b4 1 (by decide)
      have s2 : sh 2 = tnI c := b4 2 (by decide)
      have hb2 := b2.1
      have hfw : FwV sh := by
        rcases f3 with ⟨y1, y2⟩ | ⟨y1, y2⟩
        · subst y1 y2
          exact ⟨0, b, 0, by decide, s0, f2, s1, by decide, Or.inl ⟨rfl, s2⟩⟩
        · refine ⟨a, b, c, f1, s0, f2, s1, y2, Or.inr ⟨y1, ?_⟩⟩
          rw [s2]
          exact if_neg (by omega)
      refine ⟨⟨⟨a, f1, s0⟩, b3.1⟩, hfw, b3.2.2.1, ⟨Or.inr ⟨b, f2, s1⟩, ?_⟩, ?_, ?_⟩
      · rcases f3 with ⟨y1, y2⟩ | ⟨y1, y2⟩
        · rw [s2, y2]; exact Or.inl rfl
        · refine Or.inr ⟨c, y2, ?_⟩
          rw [s2]
          exact if_neg (by omega)
      · unfold FdV
        rw [s0, s2]
        rcases f3 with ⟨y1, y2⟩ | ⟨y1, y2⟩
        · rw [y1, y2]
          exact ⟨fun _ => rfl, fun _ => rfl⟩
        · rw [show tnI c = nI c from if_neg (by omega)]
          refine ⟨fun z => absurd z (nI_m1 (by omega)), fun z => ?_⟩
          have : a = 0 := (nI_eq (a := a) (b := 0) (by omega) (by decide)).mp z
          omega
      · unfold wrS shT
        have hx : ix (sh 0) = a := by rw [s0, ix_nI (by omega)]
        have hy : ix (sh 1) = b := by rw [s1, ix_nI (by omega)]
        have hz : ix (sh 2) = c ∨ a = 0 := by
          rcases f3 with ⟨y1, y2⟩ | ⟨y1, y2⟩
          · exact Or.inr y1
          · refine Or.inl ?_
            rw [s2, show tnI c = nI c from if_neg (by omega), ix_nI (by omega)]
        rw [hx, hy]
        obtain ⟨g1, g2⟩ := f4 (ix (sh 2)) hz
        rw [renC_app, renC_len _ g2]
        omega
