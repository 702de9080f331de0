/-! a point of a shield -/
theorem mu_all : (List.range 7).all (fun m => (List.range 6).all (fun i => decide (((2 * nI i) - nI m) + 1 = (2 * nI i) - (nI m - 1)))) = true := by decide +kernel
theorem mu_e {m i : Nat} (h6 : m ≤ 6) (hi : i < 6) : ((2 * nI i) - nI m) + 1 = (2 * nI i) - (nI m - 1) := of_decide_eq_true (all_r (all_r mu_all (show m < 7 by omega)) hi)
theorem c198 {d k pl kn m : Nat} {sh : Nat → Int32} {x y : Int32} {h : Hp} {K : Int32 → Hp → Prop} {P : Nat → List AV → List AV → Hp → Prop} (hP : Cl (Call (d + 3)) 198 (fun v h' => ∃ x, v = some (vI x) ∧ K x h') P) (S : RSh h) (Q : RsK h k sh) (hpl : pl = 1 ∨ pl = 2 ∨ pl = 4 ∨ (pl = 6 ∧ m = 1)) (ek : sh (3 + 9 * pl + 0) = nI kn) (h1 : 1 ≤ m) (h6 : m ≤ 6) (k16 : 16 ≤ kn) (k30 : kn ≤ 30) : ∀ (q i : Nat) (w10 w11 : AV), i + q = m → K (bi (covS pl kn m ((2 * x) - 59) ((2 * y) - 71) i q)) h → P 67 [vR 11 (some 0), vI (nI (63 * k + 9 * pl)), vI (nI pl), vI x, vI y, vI (nI m), vI (nI (sidS pl m)), vI ((2 * x) - 59), vI ((2 * y) - 71), vI (nI i), w10, w11] [] h
  | 0, i, w10, w11, hq, kk => by
    exact v198_67 hP 0 _ _ _ _ _ _ _ _ (nI i) w10 w11 h ⟨fun _ => ⟨_, rfl, kk⟩, fun c => absurd (nI_le (by omega) (by omega)) c⟩
  | q + 1, i, w10, w11, hq, kk => by
    have hk := Q.1
    have kk : K (bi (chgC kn (nI (sidS pl m)) ((2 * x) - 59 - muS pl m i) ((2 * y) - 71 - mvS pl m i) || covS pl kn m ((2 * x) - 59) ((2 * y) - 71) (i + 1) q)) h := kk
    have i0 : ix (nI (63 * k + 9 * pl)) = 63 * k + (9 * pl + 0) := nI_clamp (by omega)
    have go : ∀ (a b : Int32) (w10 w11 : AV), a = muS pl m i → b = mvS pl m i → dr (jR h 11 0 15) (fun a5 => vp_in (nI (63 * k + 9 * pl)) (jLen h 21 a5) ∧ (CI (d + 3) 201 [vI (jI h 21 a5 (ix (nI (63 * k + 9 * pl)))), vI ((2 * x) - 59 - a), vI ((2 * y) - 71 - b), vI (nI (sidS pl m))] h (fun x7 h6 => (x7 = 0 → P 67 [vR 11 (some 0), vI (nI (63 * k + 9 * pl)), vI (nI pl), vI x, vI y, vI (nI m), vI (nI (sidS pl m)), vI ((2 * x) - 59), vI ((2 * y) - 71), vI (nI i + 1), w10, w11] [] h6) ∧ (¬ x7 = 0 → (fun v h' => ∃ x, v = some (vI x) ∧ K x h') (some (vI 1)) h6)))) := by
      intro a b w10 w11 ea eb
      rw [i0, ea, eb]
      refine dr_of S.r15 ⟨vp3843 (i := 0) (by omega) (by omega) (by omega) S.n15, ?_⟩
      rw [Q.p (by omega) (by omega), ek]
      refine s201 k16 k30 ⟨fun c => ?_, fun c => ⟨_, rfl, ?_⟩⟩
      · rw [bo0.mp c, Bool.false_or] at kk
        rw [nI_1]
        exact c198 hP S Q hpl ek h1 h6 k16 k30 q (i + 1) _ _ (by omega) kk
      · rw [bo1.mp c, Bool.true_or] at kk
        exact kk
    refine v198_67 hP 0 _ _ _ _ _ _ _ _ (nI i) w10 w11 h ⟨fun c => absurd c (nI_ge (by omega) (by omega)), fun _ => s199 h1 h6 (by omega) (s200 h1 h6 (by omega) ?_)⟩
    have me := mu_e (m := m) (i := i) h6 (by omega)
    rcases hpl with rfl | rfl | rfl | ⟨rfl, rfl⟩
    · refine ⟨fun _ => ⟨fun _ => go _ _ _ _ (by rw [me]; rfl) rfl, fun z => absurd (by decide) z⟩, fun z => absurd rfl z⟩
    · exact ⟨fun z => absurd z (by decide), fun _ => ⟨fun _ => ⟨fun _ => go _ _ _ _ rfl rfl, fun z => absurd (by decide) z⟩, fun z => absurd (by decide) z⟩⟩
    · exact ⟨fun z => absurd z (by decide), fun _ => ⟨fun z => absurd rfl z, fun _ => ⟨fun z => absurd rfl z, fun _ => go _ _ _ _ (by rw [me]; rfl) rfl⟩⟩⟩
    · have ei : i = 0 := by omega
      subst ei
      exact ⟨fun z => absurd z (by decide), fun _ => ⟨fun _ => ⟨fun z => absurd rfl z, fun _ => go _ _ _ _ (by decide) rfl⟩, fun z => absurd (by decide) z⟩⟩
/-- isChargesAt(s, place, x, y) -/
theorem s198 {d k pl kn m : Nat} {sh : Nat → Int32} {x y : Int32} {h : Hp} {K : Int32 → Hp → Prop} (S : RSh h) (Q : RsK h k sh) (hpl : pl = 1 ∨ pl = 2 ∨ pl = 4 ∨ (pl = 6 ∧ m = 1)) (ek : sh (3 + 9 * pl + 0) = nI kn) (em : sh (3 + 9 * pl + 2) = nI m) (h1 : 1 ≤ m) (h6 : m ≤ 6) (k16 : 16 ≤ kn) (k30 : kn ≤ 30) (kk : K (bi (covS pl kn m ((2 * x) - 59) ((2 * y) - 71) 0 m)) h) : CI (d + 4) 198 [vR 11 (some 0), vI (nI (63 * k + 9 * pl)), vI (nI pl), vI x, vI y] h K := by
  intro P hP
  have hk := Q.1
  have e2 : nI (63 * k + 9 * pl) + 2 = nI (63 * k + (9 * pl + 2)) := spot_i k pl 2
  have i2 : ix (nI (63 * k + (9 * pl + 2))) = 63 * k + (9 * pl + 2) := nI_clamp (by omega)
  refine v198 hP 0 _ _ x y h ?_
  rw [e2, i2]
  refine dr_of S.r15 ⟨vp3843 (by omega) (by omega) (by omega) S.n15, ?_⟩
  rw [Q.p (by omega) (by omega), em]
  have go := fun (s : Nat) (e : sidS pl m = s) => e ▸ c198 (d := d) hP S Q hpl ek h1 h6 k16 k30 m 0 un un (by omega) kk
  refine ⟨fun c => ⟨fun c2 => ⟨fun c3 => go 10 ?_, fun c3 => go 12 ?_⟩, fun c2 => go 16 ?_⟩, fun c => go 8 ?_⟩
  · have c : ¬ pl = 6 := fun z => c (by rw [z]; rfl)
    have c2 : ¬ m = 1 := fun z => c2 (by rw [z]; rfl)
    have c3 : 4 ≤ m := (nI_leI (a := 4) (by omega) (by omega)).mp c3
    unfold sidS; rw [if_neg c, if_neg c2, if_pos (by omega)]
  · have c : ¬ pl = 6 := fun z => c (by rw [z]; rfl)
    have c2 : ¬ m = 1 := fun z => c2 (by rw [z]; rfl)
    have c3 : ¬ 4 ≤ m := fun z => c3 ((nI_leI (a := 4) (by omega) (by omega)).mpr z)
    unfold sidS; rw [if_neg c, if_neg c2, if_neg (by omega)]
  · have c : ¬ pl = 6 := fun z => c (by rw [z]; rfl)
    have c2 : m = 1 := (nI_eq (a := m) (b := 1) (by omega) (by decide)).mp (Classical.not_not.mp c2)
    unfold sidS; rw [if_neg c, if_pos c2]
  · have c : pl = 6 := (nI_eq (a := pl) (b := 6) (by omega) (by decide)).mp (Classical.not_not.mp c)
    unfold sidS; rw [if_pos c]
/-- the tincture of a point over the first j places, then the field -/
def ptL (sh : Nat → Int32) (x y : Int32) : Nat → Int32
  | 0 => if secS (ix (sh 0)) x y = true then sh 2 else sh 1
  | j + 1 => if ¬ sh (3 + 9 * j) = 0 ∧ cvrS j (ix (sh (3 + 9 * j + 0))) (ix (sh (3 + 9 * j + 2))) x y = true then sh (3 + 9 * j + 1) else ptL sh x y j
def ptS (sh : Nat → Int32) (x y : Int32) : Int32 := if insS x y = true then ptL sh x y 7 else -1
/-- a valid shield's cells -/
def ShV (sh : Nat → Int32) : Prop := (∃ p, p ≤ 10 ∧ sh 0 = nI p) ∧ ∀ pl, pl < 7 → (∀ i, i < 9 → sh (3 + 9 * pl + i) = emR i) ∨ PV pl (fun i => sh (3 + 9 * pl + i))
theorem PV.kn {pl : Nat} {sh : Nat → Int32} (V : PV pl (fun i => sh (3 + 9 * pl + i))) : ∃ k m, sh (3 + 9 * pl + 0) = nI k ∧ sh (3 + 9 * pl + 2) = nI m ∧ ix (sh (3 + 9 * pl + 0)) = k ∧ ix (sh (3 + 9 * pl + 2)) = m ∧ 1 ≤ m ∧ m ≤ 6 ∧ (((pl = 0 ∧ 8 ≤ k ∧ k ≤ 14) ∨ (pl = 3 ∧ k = 7) ∨ (pl = 5 ∧ k = 15) ∨ (pl = 6 ∧ 20 ≤ k ∧ k ≤ 30)) ∧ m = 1 ∨ ((pl = 1 ∨ pl = 2 ∨ pl = 4) ∧ 16 ≤ k ∧ k ≤ 29)) := by
  obtain ⟨k, t, m, w, h0, h1, h2, h3, h4, h5, h6, h7, h8, h9⟩ := V
  have h0 : sh (3 + 9 * pl + 0) = nI k := h0
  have h2 : sh (3 + 9 * pl + 2) = nI m := h2
  refine ⟨k, m, h0, h2, ?_, ?_, h5, h6, ?_⟩
  · rw [h0]; exact nI_clamp (by omega)
  · rw [h2]; exact nI_clamp (by omega)
  · rcases h9 with z | z
    · exact Or.inl ⟨z.1, z.2.1⟩
    · exact Or.inr z
theorem s159 {d n : Nat} {x : Int32} {h : Hp} {K : Int32 → Hp → Prop} (e : jI h 11 0 11 = nI n) (hn : n ≤ 60) (k0 : (∀ j, j < n → ¬ x = nI j) → K 0 h) (k1 : ∀ j, j < n → x = nI j → K 1 h) : CI (d + 1) 159 [vR 11 (some 0), vI x] h K := by
  intro P hP
  refine v159 hP 0 x h ⟨fun c => ⟨_, rfl, k0 (fun j hj z => ?_)⟩, fun c => ⟨fun c2 => ⟨_, rfl, k0 (fun j hj z => ?_)⟩, fun c2 => ?_⟩⟩
  · rw [z] at c; exact nI_pos (by omega) c
  · rw [e, z] at c2; exact nI_ge hj (by omega) c2
  · obtain ⟨j, hj, ej⟩ := nI_of c
    refine ⟨_, rfl, k1 j ?_ ej⟩
    rw [e, ej] at c2
    rcases Nat.lt_or_ge j n with z | z
    · exact z
    · exact absurd (nI_le z (by omega)) c2
theorem c195 {d k : Nat} {sh : Nat → Int32} {x y : Int32} {h : Hp} {K : Int32 → Hp → Prop} {P : Nat → List AV → List AV → Hp → Prop} (hP : Cl (Call (d + 4)) 195 (fun v h' => ∃ x, v = some (vI x) ∧ K x h') P) (S : RSh h) (Q : RsK h k sh) (V : ShV sh) : ∀ (j : Nat) (l4 : Int32) (w5 w6 : AV), j ≤ 7 → l4 = (if j = 0 then -1 else nI (j - 1)) → K (ptL sh x y j) h → P 22 [vR 11 (some 0), vI (nI k), vI x, vI y, vI l4, w5, w6] [] h
  | 0, l4, w5, w6, hj, e4, kk => by
    obtain ⟨⟨p, hp, ep⟩, -⟩ := V
    have ip : ix (sh 0) = p := by rw [ep]; exact nI_clamp (by omega)
    unfold ptL at kk
    rw [ip] at kk
    rw [e4]
    exact v195_22 hP 0 _ x y _ w5 w6 h ⟨fun _ => s203 S Q ep hp ⟨_, rfl, kk⟩, fun c => absurd (by decide) c⟩
  | j + 1, l4, w5, w6, hj, e4, kk => by
    have hk := Q.1
    have e4 : l4 = nI j := by rw [e4, if_neg (by omega)]; rfl
    have em1 : nI j + (-1) = (if j = 0 then -1 else nI (j - 1)) := by
      by_cases z : j = 0
      · rw [z]; decide
      · rw [if_neg z]
        obtain ⟨t, rfl⟩ : ∃ t, j = t + 1 := ⟨j - 1, by omega⟩
        exact pk_m1 t
    rw [e4]
    have i0 : ix (nI (63 * k + 9 * j)) = 63 * k + (9 * j + 0) := nI_clamp (by omega)
    have e1 : nI (63 * k + 9 * j) + 1 = nI (63 * k + (9 * j + 1)) := spot_i k j 1
    have i1 : ix (nI (63 * k + (9 * j + 1))) = 63 * k + (9 * j + 1) := nI_clamp (by omega)
    refine v195_22 hP 0 _ x y _ w5 w6 h ⟨fun c => absurd c (nI_pos (by omega)), fun _ => s124 ?_⟩
    rw [spot_e, i0, e1, i1]
    refine dr_of S.r15 ⟨vp3843 (i := 0) (by omega) (by omega) (by omega) S.n15, ?_⟩
    rw [Q.p (by omega) (by omega)]
    unfold ptL at kk
    refine ⟨fun cz => ?_, fun cz => ?_⟩
    · have cz : ¬ sh (3 + 9 * j) = 0 := cz
      have pv : PV j (fun i => sh (3 + 9 * j + i)) := by
        rcases V.2 j (by omega) with z | z
        · exact absurd (z 0 (by decide)) cz
        · exact z
      obtain ⟨kn, m, ek, em, ik, im, h1, h6, hkd⟩ := pv.kn
      rw [ik, im] at kk
      have nxt : cvrS j kn m x y = false → ∀ (w5 w6 : AV), P 22 [vR 11 (some 0), vI (nI k), vI x, vI y, vI (nI j + (-1)), w5, w6] [] h := by
        intro z w5 w6
        rw [if_neg (fun w => by rw [z] at w; exact absurd w.2 (by decide))] at kk
        exact c195 hP S Q V j _ w5 w6 (by omega) em1 kk
      have fin : cvrS j kn m x y = true → dr (jR h 11 0 15) (fun a8 => vp_in (nI (63 * k + (9 * j + 1))) (jLen h 21 a8) ∧ (fun v h' => ∃ x, v = some (vI x) ∧ K x h') (some (vI (jI h 21 a8 (63 * k + (9 * j + 1))))) h) := by
        intro z
        rw [if_pos ⟨cz, z⟩] at kk
        refine dr_of S.r15 ⟨vp3843 (by omega) (by omega) (by omega) S.n15, _, rfl, ?_⟩
        rw [Q.p (by omega) (by omega)]
        exact kk
      have chg : (j = 1 ∨ j = 2 ∨ j = 4 ∨ (j = 6 ∧ m = 1)) → 16 ≤ kn → kn ≤ 30 → ∀ (w5 w6 : AV), CI (d + 4) 198 [vR 11 (some 0), vI (nI (63 * k + 9 * j)), vI (nI j), vI x, vI y] h (fun x7 h6 => (x7 = 0 → P 22 [vR 11 (some 0), vI (nI k), vI x, vI y, vI (nI j + (-1)), w5, w6] [] h6) ∧ (¬ x7 = 0 → dr (jR h6 11 0 15) (fun a8 => vp_in (nI (63 * k + (9 * j + 1))) (jLen h6 21 a8) ∧ (fun v h' => ∃ x, v = some (vI x) ∧ K x h') (some (vI (jI h6 21 a8 (63 * k + (9 * j + 1))))) h6))) := by
        intro hp k16 k30 w5 w6
        have ec : cvrS j kn m x y = covS j kn m ((2 * x) - 59) ((2 * y) - 71) 0 m := by
          unfold cvrS
          rw [if_neg (by omega), if_neg (by omega), if_neg (by omega)]
        rw [ec] at nxt fin
        exact s198 S Q hp ek em h1 h6 k16 k30 ⟨fun c => nxt (bo0.mp c) w5 w6, fun c => fin (bo1.mp c)⟩
      have ord : ((j = 0 ∧ 8 ≤ kn ∧ kn ≤ 14) ∨ (j = 3 ∧ kn = 7) ∨ (j = 5 ∧ kn = 15)) → m = 1 → ∀ (w5 w6 : AV), dr (jR h 11 0 15) (fun a15 => vp_in (nI (63 * k + 9 * j)) (jLen h 21 a15) ∧ (CI (d + 4) 202 [vI (jI h 21 a15 (63 * k + (9 * j + 0))), vI x, vI y] h (fun x17 h16 => (x17 = 0 → P 22 [vR 11 (some 0), vI (nI k), vI x, vI y, vI (nI j + (-1)), w5, w6] [] h16) ∧ (¬ x17 = 0 → dr (jR h16 11 0 15) (fun a18 => vp_in (nI (63 * k + (9 * j + 1))) (jLen h16 21 a18) ∧ (fun v h' => ∃ x, v = some (vI x) ∧ K x h') (some (vI (jI h16 21 a18 (63 * k + (9 * j + 1))))) h16))))) := by
        intro hp m1 w5 w6
        subst m1
        refine dr_of S.r15 ⟨vp3843 (i := 0) (by omega) (by omega) (by omega) S.n15, ?_⟩
        rw [Q.p (by omega) (by omega), ek]
        exact s202 hp ⟨fun c => nxt (bo0.mp c) w5 w6, fun c => fin (bo1.mp c)⟩
      have hc : j = 0 ∨ j = 1 ∨ j = 2 ∨ j = 3 ∨ j = 4 ∨ j = 5 ∨ j = 6 := by omega
      rcases hc with rfl | rfl | rfl | rfl | rfl | rfl | rfl
      · exact ⟨fun z => absurd z (by decide), fun _ => ⟨fun z => absurd z (by decide), fun _ => ⟨fun z => absurd z (by decide), fun _ => ⟨fun _ => ord (by omega) (by omega) _ _, fun z => absurd (by decide) z⟩⟩⟩⟩
      · exact ⟨fun _ => chg (by omega) (by omega) (by omega) _ _, fun z => absurd rfl z⟩
      · exact ⟨fun z => absurd z (by decide), fun _ => ⟨fun _ => chg (by omega) (by omega) (by omega) _ _, fun z => absurd rfl z⟩⟩
      · exact ⟨fun z => absurd z (by decide), fun _ => ⟨fun z => absurd z (by decide), fun _ => ⟨fun z => absurd z (by decide), fun _ => ⟨fun _ => ord (by omega) (by omega) _ _, fun z => absurd (by decide) z⟩⟩⟩⟩
      · exact ⟨fun z => absurd z (by decide), fun _ => ⟨fun z => absurd z (by decide), fun _ => ⟨fun _ => chg (by omega) (by omega) (by omega) _ _, fun z => absurd rfl z⟩⟩⟩
      · exact ⟨fun z => absurd z (by decide), fun _ => ⟨fun z => absurd z (by decide), fun _ => ⟨fun z => absurd z (by decide), fun _ => ⟨fun _ => ord (by omega) (by omega) _ _, fun z => absurd (by decide) z⟩⟩⟩⟩
      · exact ⟨fun z => absurd z (by decide), fun _ => ⟨fun z => absurd z (by decide), fun _ => ⟨fun z => absurd z (by decide), fun _ => ⟨fun z => absurd rfl z, fun _ => chg (by omega) (by omega) (by omega) _ _⟩⟩⟩⟩
    · have cz : sh (3 + 9 * j) = 0 := Classical.not_not.mp cz
      rw [if_neg (fun w => w.1 cz)] at kk
      exact c195 hP S Q V j _ _ _ (by omega) em1 kk
