section
variable {d a n k : Nat} {tx : Nat → Int32} {D : List Bod} {r q : Nat} {H : Hp}
theorem ter13 {j o : Nat} {K : Int32 → Hp → Prop} {P : Nat → List AV → List AV → Hp → Prop} (B : Bp H) (hB : Byt tx) (hn : n ≤ 240) (hF : FacP d a n k tx D r q H j) (ho : o + j = 9) (hP : Cl (Call (d + 3 * j + 6)) 20 (fun v h' => ∃ x, v = some (vI x) ∧ K x h') P) : ∀ (t i p f : Nat) (G h : Hp) (C m out : List Nat) (w4 : AV), n - p ≤ t → i ≤ p → CS a n k tx D r q H G h p C → (fl D).length + C.length ≤ p → n - p < f → Mp m → C = out ++ em m → (∀ G' h' p', (∀ S, Tp 2 S → yr tx n f false (m ++ S) o out p = (none, p')) → CL a n k tx H G' h' p' → K 0 h') → (∀ G' h' p' C' f' m' out', CS a n k tx D r q H G' h' p' C' → C'.length + p ≤ C.length + p' → p ≤ p' → n - p' < f' → Mp m' → C' = out' ++ em m' → ¬ (2 ≤ sgK (kd tx n p') ∧ sgK (kd tx n p') < 9) → (∀ S, Tp 2 S → yr tx n f false (m ++ S) o out p = yr tx n f' false (m' ++ S) o out' p') → K 1 h') → P 13 [vR 2 (some 0), vR 1 (some k), vI (nI o), vI (nI i), w4] [] h
  | t, i, p, f, G, h, C, m, out, w4, ht, hi, c, hlen, hf, hm, eC, k0, k1 => by
    have hp : p ≤ n := c.1.1.2.2
    have e2 := c.1.b B
    have stop : ¬ (2 ≤ sgK (kd tx n p) ∧ sgK (kd tx n p) < 9) → ∃ x, some (vI 1) = some (vI x) ∧ K x h := fun z => ⟨_, rfl, k1 _ _ p C f m out c (Nat.le_refl _) (Nat.le_refl _) hf hm eC z (fun S _ => rfl)⟩
    refine v20_13 hP 0 (some k) (nI o) (nI i) w4 h ⟨fun c1 => stop ?_, fun _ => dr_of e2 (s84n c.1.1 hB ?_)⟩
    · have c1 := (nI_leI (a := 240) (by omega) (by omega)).mp c1
      have pn : p = n := by omega
      have e0 : kd tx n p = 200 := by
        rcases Nat.decEq (kd tx n p) 200 with z | z
        · have := np_gt hp z
          have := np_le (tx := tx) hp
          omega
        · exact z
      rw [e0]; decide
    · rcases sgK_le (kd tx n p) with z6 | z9
      · rw [if_pos (show sgK (kd tx n p) < 9 by omega)]
        refine ⟨fun c2 => ?_, fun c2 => stop (fun z => c2 (nI_le (a := 2) z.1 (by omega)))⟩
        have c2 : 2 ≤ sgK (kd tx n p) := (nI_leI (a := 2) (by omega) (by omega)).mp c2
        have n200 : ¬ kd tx n p = 200 := by
          intro z; rw [z] at z6; exact absurd z6 (by decide)
        have pg := np_gt hp n200
        have pl := np_le (tx := tx) hp
        obtain ⟨f0, ef⟩ : ∃ f0, f = f0 + 1 := ⟨f - 1, by omega⟩
        subst ef
        have ey : ∀ S, Tp 2 S → yr tx n (f0 + 1) false (m ++ S) o out p = yr tx n f0 true (sgK (kd tx n p) :: S) o C (np tx n p) := by
          intro S T
          unfold yr
          have el : lvl (sgK (kd tx n p)) = 2 := by unfold lvl; rw [if_neg (by omega)]
          rw [yrd_f, if_pos (by omega), el, joi_m hm, joi_T T, ← eC]
        obtain ⟨t0, et⟩ : ∃ t0, t = t0 + 1 := ⟨t - 1, by omega⟩
        subst et
        refine dr_of e2 (c.next (fun h2 c3 => ?_))
        refine hF o (np tx n p) f0 G h2 C _ ho c3 (by omega) (by omega) (fun G' h' p' e c' => ⟨fun y => absurd rfl y, fun _ => ⟨_, rfl, k0 _ _ p' (fun S T => (ey S T).trans (e _)) c'⟩⟩) (fun G' h' p' C' f' c' hl hpp hf' e => ⟨fun _ => dr_of rfl ?_, fun y => absurd (by decide) y⟩)
        have hp' : p' ≤ n := c'.1.1.2.2
        have ev : (20000 : Int32) + nI (sgK (kd tx n p)) = nI (20000 + sgK (kd tx n p)) := by
          show nI 20000 + nI (sgK (kd tx n p)) = _
          rw [nI_add]
        rw [ev]
        refine c'.add (by omega) (by omega) (fun G2 h3 c4 => ?_)
        have ll : (C' ++ [20000 + sgK (kd tx n p)]).length = C'.length + 1 := by rw [List.length_append]; rfl
        rw [nI_1]
        refine ter13 B hB hn hF ho hP t0 (i + 1) p' f' G2 h3 (C' ++ [20000 + sgK (kd tx n p)]) [sgK (kd tx n p)] C' _ (by omega) (by omega) c4 (by rw [ll]; omega) hf' (Or.inr ⟨_, rfl, c2, z6⟩) rfl (fun G' h' p2 e2 c' => k0 _ _ p2 (fun S T => ?_) c') (fun G' h' p2 C2 f2 m2 out2 c' hl2 hpp2 hf2 hm2 eC2 ns2 e2 => k1 _ _ p2 C2 f2 m2 out2 c' (by rw [ll] at hl2; omega) (by omega) hf2 hm2 eC2 ns2 (fun S T => ?_))
        · rw [ey S T, e]; exact e2 S T
        · rw [ey S T, e]; exact e2 S T
      · rw [if_neg (by omega)]
        exact ⟨fun c2 => absurd c2 (by decide), fun _ => stop (by omega)⟩
theorem terP {j : Nat} (B : Bp H) (hB : Byt tx) (hn : n ≤ 240) (hF : FacP d a n k tx D r q H j) : TerP d a n k tx D r q H j := by
  intro o p f G h C K ho c hlen hf k0 k1 P hP
  refine v20 hP 0 (some k) (nI o) h (hF o p f G h C _ ho c hlen hf (fun G' h' p' e c' => ⟨fun y => absurd rfl y, fun _ => ⟨_, rfl, k0 _ _ p' (fun S _ => e S) c'⟩⟩) (fun G' h' p' C' f' c' hl hpp hf' e => ⟨fun _ => ?_, fun y => absurd (by decide) y⟩))
  refine ter13 (i := 0) B hB hn hF ho hP (n - p') p' f' G' h' C' [] C' un (Nat.le_refl _) (Nat.zero_le _) c' (by omega) hf' (Or.inl rfl) (by unfold em; rw [List.map_nil, List.append_nil]) (fun G2 h2 p2 e2 c2 => k0 _ _ p2 (fun S T => (e S).trans (e2 S T)) c2) (fun G2 h2 p2 C2 f2 m2 out2 c2 hl2 hpp2 hf2 hm2 eC2 ns2 e2 => k1 _ _ p2 C2 f2 m2 out2 c2 (by omega) (by omega) hf2 hm2 eC2 ns2 (fun S T => (e S).trans (e2 S T)))
theorem exp13 {j o : Nat} {K : Int32 → Hp → Prop} {P : Nat → List AV → List AV → Hp → Prop} (B : Bp H) (hB : Byt tx) (hn : n ≤ 240) (hT : TerP d a n k tx D r q H j) (ho : o + j = 9) (hP : Cl (Call (d + 3 * j + 7)) 19 (fun v h' => ∃ x, v = some (vI x) ∧ K x h') P) : ∀ (t i p f : Nat) (G h : Hp) (C m b out : List Nat) (w4 : AV), n - p ≤ t → i ≤ p → CS a n k tx D r q H G h p C → (fl D).length + C.length ≤ p → n - p < f → Mp m → Ap b → C = out ++ em m ++ em b → ¬ (2 ≤ sgK (kd tx n p) ∧ sgK (kd tx n p) < 9) → (∀ G' h' p', (∀ S, Tp 1 S → yr tx n f false (m ++ (b ++ S)) o out p = (none, p')) → CL a n k tx H G' h' p' → K 0 h') → (∀ G' h' p' C' f' m' b' out', CS a n k tx D r q H G' h' p' C' → C'.length + p ≤ C.length + p' → p ≤ p' → n - p' < f' → Mp m' → Ap b' → C' = out' ++ em m' ++ em b' → sgK (kd tx n p') = 9 → (∀ S, Tp 1 S → yr tx n f false (m ++ (b ++ S)) o out p = yr tx n f' false (m' ++ (b' ++ S)) o out' p') → K 1 h') → P 13 [vR 2 (some 0), vR 1 (some k), vI (nI o), vI (nI i), w4] [] h
  | t, i, p, f, G, h, C, m, b, out, w4, ht, hi, c, hlen, hf, hm, hb, eC, nprod, k0, k1 => by
    have hp : p ≤ n := c.1.1.2.2
    have e2 := c.1.b B
    have stop : sgK (kd tx n p) = 9 → ∃ x, some (vI 1) = some (vI x) ∧ K x h := fun z => ⟨_, rfl, k1 _ _ p C f m b out c (Nat.le_refl _) (Nat.le_refl _) hf hm hb eC z (fun S _ => rfl)⟩
    refine v19_13 hP 0 (some k) (nI o) (nI i) w4 h ⟨fun c1 => stop ?_, fun _ => dr_of e2 (s84n c.1.1 hB ?_)⟩
    · have c1 := (nI_leI (a := 240) (by omega) (by omega)).mp c1
      have pn : p = n := by omega
      have e0 : kd tx n p = 200 := by
        rcases Nat.decEq (kd tx n p) 200 with z | z
        · have := np_gt hp z
          have := np_le (tx := tx) hp
          omega
        · exact z
      rw [e0]; decide
    · rcases sgK_le (kd tx n p) with z6 | z9
      · rw [if_pos (show sgK (kd tx n p) < 9 by omega)]
        refine ⟨fun c2 => absurd c2 (nI_m1 (by omega)), fun _ => ⟨fun c2 => ?_, fun c2 => absurd (nI_lt (b := 2) (by omega) (by omega)) c2⟩⟩
        have n200 : ¬ kd tx n p = 200 := by
          intro z; rw [z] at z6; exact absurd z6 (by decide)
        have pg := np_gt hp n200
        have pl := np_le (tx := tx) hp
        obtain ⟨f0, ef⟩ : ∃ f0, f = f0 + 1 := ⟨f - 1, by omega⟩
        subst ef
        have ey : ∀ S, Tp 1 S → yr tx n (f0 + 1) false (m ++ (b ++ S)) o out p = yr tx n f0 true (sgK (kd tx n p) :: S) o C (np tx n p) := by
          intro S T
          unfold yr
          have el : lvl (sgK (kd tx n p)) = 1 := by unfold lvl; rw [if_pos (by omega)]
          rw [yrd_f, if_pos (by omega), el, joi_m hm, joi_a hb, joi_T T, ← eC]
        have TT : ∀ S, Tp 2 (sgK (kd tx n p) :: S) := fun S s S' e => Or.inr ⟨rfl, by have := List.head_eq_of_cons_eq e; omega⟩
        obtain ⟨t0, et⟩ : ∃ t0, t = t0 + 1 := ⟨t - 1, by omega⟩
        subst et
        refine dr_of e2 (c.next (fun h2 c3 => ?_))
        refine hT o (np tx n p) f0 G h2 C _ ho c3 (by omega) (by omega) (fun G' h' p' e c' => ⟨fun y => absurd rfl y, fun _ => ⟨_, rfl, k0 _ _ p' (fun S T => (ey S T).trans (e _ (TT S))) c'⟩⟩) (fun G' h' p' C' f' m' out' c' hl hpp hf' hm' eC' ns' e => ⟨fun _ => dr_of rfl ?_, fun y => absurd (by decide) y⟩)
        have hp' : p' ≤ n := c'.1.1.2.2
        have ev : (20000 : Int32) + nI (sgK (kd tx n p)) = nI (20000 + sgK (kd tx n p)) := by
          show nI 20000 + nI (sgK (kd tx n p)) = _
          rw [nI_add]
        rw [ev]
        refine c'.add (by omega) (by omega) (fun G2 h3 c4 => ?_)
        have ll : (C' ++ [20000 + sgK (kd tx n p)]).length = C'.length + 1 := by rw [List.length_append]; rfl
        rw [nI_1]
        refine exp13 B hB hn hT ho hP t0 (i + 1) p' f' G2 h3 (C' ++ [20000 + sgK (kd tx n p)]) m' [sgK (kd tx n p)] out' _ (by omega) (by omega) c4 (by rw [ll]; omega) hf' hm' (Or.inr ⟨_, rfl, by omega⟩) (by rw [eC']; rfl) ns' (fun G' h' p2 e2 c' => k0 _ _ p2 (fun S T => ?_) c') (fun G' h' p2 C2 f2 m2 b2 out2 c' hl2 hpp2 hf2 hm2 hb2 eC2 ns2 e2 => k1 _ _ p2 C2 f2 m2 b2 out2 c' (by rw [ll] at hl2; omega) (by omega) hf2 hm2 hb2 eC2 ns2 (fun S T => ?_))
        · rw [ey S T, e _ (TT S)]; exact e2 S T
        · rw [ey S T, e _ (TT S)]; exact e2 S T
      · rw [if_neg (by omega)]
        exact ⟨fun _ => stop z9, fun c2 => absurd rfl c2⟩
theorem expP {j : Nat} (B : Bp H) (hB : Byt tx) (hn : n ≤ 240) (hT : TerP d a n k tx D r q H j) : ExpP d a n k tx D r q H j := by
  intro o p f G h C K ho c hlen hf k0 k1 P hP
  have T12 : ∀ S, Tp 1 S → Tp 2 S := fun S T s S' e => Or.inl (by rcases T s S' e with z | z; exact z; omega)
  refine v19 hP 0 (some k) (nI o) h (hT o p f G h C _ ho c hlen hf (fun G' h' p' e c' => ⟨fun y => absurd rfl y, fun _ => ⟨_, rfl, k0 _ _ p' (fun S T => e S (T12 S T)) c'⟩⟩) (fun G' h' p' C' f' m' out' c' hl hpp hf' hm' eC' ns' e => ⟨fun _ => ?_, fun y => absurd (by decide) y⟩))
  refine exp13 (i := 0) B hB hn hT ho hP (n - p') p' f' G' h' C' m' [] out' un (Nat.le_refl _) (Nat.zero_le _) c' (by omega) hf' hm' (Or.inl rfl) (by rw [eC']; show _ = _ ++ []; rw [List.append_nil]) ns' (fun G2 h2 p2 e2 c2 => k0 _ _ p2 (fun S T => (e S (T12 S T)).trans (e2 S T)) c2) (fun G2 h2 p2 C2 f2 m2 b2 out2 c2 hl2 hpp2 hf2 hm2 hb2 eC2 ns2 e2 => k1 _ _ p2 C2 f2 m2 b2 out2 c2 (by omega) (by omega) hf2 hm2 hb2 eC2 ns2 (fun S T => (e S (T12 S T)).trans (e2 S T)))
theorem allP (B : Bp H) (hB : Byt tx) (hn : n ≤ 240) : ∀ j, ExpP d a n k tx D r q H j
  | 0 => expP B hB hn (terP B hB hn (facP B hB hn (fun z => absurd z (by decide))))
  | j + 1 => expP B hB hn (terP B hB hn (facP B hB hn (fun _ => allP B hB hn j)))
/-- readExpression(draft, 0): accepted with the code that the stack of waiting signs gives -/
theorem s19 {p f : Nat} {G h : Hp} {K : Int32 → Hp → Prop} (B : Bp H) (hB : Byt tx) (hn : n ≤ 240) (c : CS a n k tx D r q H G h p []) (hlen : (fl D).length ≤ p) (hf : n - p < f) (k0 : ∀ G' h' p', yr tx n f true [] 0 [] p = (none, p') → CL a n k tx H G' h' p' → K 0 h') (k1 : ∀ G' h' p' C', (kd tx n p' = 359 → yr tx n f true [] 0 [] p = (some C', p')) → (¬ kd tx n p' = 359 → yr tx n f true [] 0 [] p = (none, p')) → CS a n k tx D r q H G' h' p' C' → C'.length + p ≤ p' → p < p' → K 1 h') : CI (d + 35) 19 [vR 2 (some 0), vR 1 (some k), vI (nI 0)] h K := by
  have T0 : Tp 1 [] := fun s S' e => by cases e
  refine allP (d := d) B hB hn 9 0 p f G h [] K rfl c (by show _ + 0 ≤ _; omega) hf (fun G' h' p' e c' => k0 _ _ p' (e [] T0) c') (fun G' h' p' C' f' m b out c' hl hpp hf' hm hb eC hs e => ?_)
  have e := e [] T0
  obtain ⟨f1, ef⟩ : ∃ f1, f' = f1 + 1 := ⟨f' - 1, by omega⟩
  subst ef
  have ey : yr tx n (f1 + 1) false (m ++ (b ++ [])) 0 out p' = if kd tx n p' = 359 then (some C', p') else (none, p') := by
    unfold yr
    rw [yrd_f, if_neg (by omega), if_neg (by omega), joi_m hm, joi_a hb, joi_T T0, ← eC]
    by_cases z : kd tx n p' = 359
    · rw [if_pos ⟨z, rfl⟩, if_pos z]
    · rw [if_neg (fun y => z y.1), if_neg z]
  exact k1 _ _ p' C' (fun z => by rw [e, ey, if_pos z]) (fun z => by rw [e, ey, if_neg z]) c' (by have : ([] : List Nat).length = 0 := rfl; omega) hpp
end
