/-! the class's readMember -/
def lst (l : Nat) : Int32 := if l = 0 then -1 else nI (l - 1)
theorem lst_all : (List.range 8).all (fun l => decide (lst l = 0 ↔ l = 1) && decide (lst l = 3 ↔ l = 4) && decide (lst l = 6 ↔ l = 7) && decide (lst l < 3 ↔ l ≤ 3) && decide (lst l < 5 ↔ l ≤ 5) && decide (lst l < 6 ↔ l ≤ 6) && decide (lst l < 2 ↔ l ≤ 2) && decide (0 ≤ lst l ↔ 1 ≤ l) && decide (2 ≤ lst l ↔ 3 ≤ l)) = true := by decide +kernel
theorem lst_f {l : Nat} (h : l ≤ 7) : (lst l = 0 ↔ l = 1) ∧ (lst l = 3 ↔ l = 4) ∧ (lst l = 6 ↔ l = 7) ∧ (lst l < 3 ↔ l ≤ 3) ∧ (lst l < 5 ↔ l ≤ 5) ∧ (lst l < 6 ↔ l ≤ 6) ∧ (lst l < 2 ↔ l ≤ 2) ∧ (0 ≤ lst l ↔ 1 ≤ l) ∧ (2 ≤ lst l ↔ 3 ≤ l) := by
  have := all_r lst_all (show l < 8 by omega)
  simp only [Bool.and_eq_true, decide_eq_true_eq] at this
  obtain ⟨⟨⟨⟨⟨⟨⟨⟨h1, h2⟩, h3⟩, h4⟩, h5⟩, h6⟩, h7⟩, h8⟩, h9⟩ := this
  exact ⟨h1, h2, h3, h4, h5, h6, h7, h8, h9⟩
def laS (x : Int32) : Int32 := if x = 0 then 3 else if x = 6 then 5 else if x = 7 then 6 else 2
theorem s71 {d : Nat} {x : Int32} {h : Hp} {K : Int32 → Hp → Prop} (k : K (laS x) h) : CI (d + 1) 71 [vI x] h K := by
  intro P hP
  unfold laS at k
  refine v71 hP x h ⟨fun c0 => ⟨_, rfl, ?_⟩, fun c0 => ⟨fun c1 => ⟨_, rfl, ?_⟩, fun c1 => ⟨fun c2 => ⟨_, rfl, ?_⟩, fun c2 => ⟨_, rfl, ?_⟩⟩⟩⟩
  · rw [if_pos c0] at k; exact k
  · rw [if_neg c0, if_pos c1] at k; exact k
  · rw [if_neg c0, if_neg c1, if_pos c2] at k; exact k
  · rw [if_neg c0, if_neg c1, if_neg c2] at k; exact k
def X33a (pa : Nat) : Nat → Nat → Nat → Prop := fun t a _ => t = 33 ∧ a = pa
theorem Fr.any {pa pl c z : Nat} {H G : Hp} (F : Fr (X33 pa pl) c z H G) : Fr (X33a pa) c z H G := by
  obtain ⟨f1, f2, f3, f4, f5⟩ := F
  exact ⟨f1, f2, fun t a k ha hX => f3 t a k ha (fun z => hX ⟨z.1, z.2.1⟩), f4, f5⟩
theorem s65 {d n a s pa l p : Nat} {tx : Nat → Int32} {H h : Hp} {K : Int32 → Hp → Prop} (R : TkN H h 0 a n tx p) (B : Bs H) (hs : jR H 7 s 3 = some pa) (hl : jLen H 33 pa = 7) (hB : Byt tx) (hl7 : l ≤ 7) (k0 : ∀ G' h' p', memS (kd tx n) (np tx n) l p = (none, p') → TkN G' h' 0 a n tx p' → Fr (X33a pa) 2 11 H G' → K (-1) h') (k1 : ∀ G' h' p' pl r, memS (kd tx n) (np tx n) l p = (some (pl, r), p') → l ≤ pl → pl < 7 → TkN G' h' 0 a n tx p' → NewP H G' pa pl r → K (nI pl) h') : CI (d + 9) 65 [vR 8 (some 0), vR 7 (some s), vI (lst l)] h K := by
  intro P hP
  obtain ⟨f0, f3, f6, g3, g5, g6, g2, p0, p2⟩ := lst_f hl7
  have e8 : ∀ {g : Hp} {q : Nat}, TkN H g 0 a n tx q → jR g 8 0 0 = some 0 := fun T => by rw [T.R]; exact B.2
  have F0 : Fr (X33a pa) 2 11 H H := (Fr.refl _ H).le (by decide) (by decide)
  have h30 : ¬ ((l = 1 ∨ l = 4) ∧ kd tx n p = 79) → P 30 [vR 8 (some 0), vR 7 (some s), vI (lst l), un, un] [] h := by
    intro non
    have em : memS (kd tx n) (np tx n) l p = if l = 7 ∨ ¬ kd tx n p = 344 then (none, p) else comS (kd tx n) (np tx n) l (np tx n p) := by
      unfold memS
      rw [if_neg non]
    refine v65_30 hP 0 (some s) (lst l) h ⟨fun c => v65_48 hP 0 _ _ _ ⟨_, rfl, k0 _ _ _ (by rw [em, if_pos (Or.inl (f6.mp c))]) R F0⟩, fun c => dr_of (e8 R) ?_⟩
    have l7 : ¬ l = 7 := fun z => c (f6.mpr z)
    refine s83n (c := 44) R hB (by decide) (fun c4 => ⟨fun z => absurd rfl z, fun _ => v65_48 hP 0 _ _ _ ⟨_, rfl, k0 _ _ _ (by rw [em, if_pos (Or.inr c4)]) R F0⟩⟩) (fun c4 h1 R1 => ⟨fun _ => dr_of (e8 R1) (s81n R1 (by decide) ?_), fun z => absurd (by decide) z⟩)
    rw [if_neg (by omega)] at em
    have c0 := fun G' h' p' (e : comS (kd tx n) (np tx n) l (np tx n p) = (none, p')) => k0 G' h' p' (em.trans e)
    have c1 := fun G' h' p' pl r (e : comS (kd tx n) (np tx n) l (np tx n p) = (some (pl, r), p')) => k1 G' h' p' pl r (em.trans e)
    clear k0 k1 em non
    generalize hq : np tx n p = q at R1 c0 c1 ⊢
    rw [aT21]
    have no : ∀ {x6 : Int32}, comS (kd tx n) (np tx n) l q = (none, q) → P 73 [vR 8 (some 0), vR 7 (some s), vI (lst l), vI x6, un] [] h1 := fun e => v65_73 hP 0 _ _ _ _ ⟨_, rfl, c0 _ _ _ e R1 F0⟩
    by_cases w76 : kd tx n q = 76
    · have eo : opS (kd tx n q) = 6 := by rw [w76]; rfl
      rw [eo]
      refine ⟨fun z => absurd z (by decide), fun _ => s71 ⟨fun z => dr_of (e8 R1) (s77n R1 (fun h2 R2 => ⟨fun y => absurd rfl y, fun _ => ?_⟩)), fun z => no ?_⟩⟩
      · have l5 : l ≤ 5 := g5.mp z
        have ec : comS (kd tx n) (np tx n) l q = borS (kd tx n) (np tx n) (np tx n q) := by
          unfold comS; rw [if_pos ⟨w76, l5⟩]
        exact s72 R2 B hs hl (fun G' h' p' e R' F => ⟨_, rfl, c0 _ _ _ (ec.trans e) R' F.any⟩) (fun G' h' p' r e R' N => ⟨_, rfl, c1 _ _ _ _ _ (ec.trans e) l5 (by decide) R' N⟩)
      · have l5 : ¬ l ≤ 5 := fun y => z (g5.mpr y)
        unfold comS; rw [if_neg (by omega), if_neg (by omega), if_neg (by omega)]
    · by_cases w77 : kd tx n q = 77
      · have eo : opS (kd tx n q) = 7 := by rw [w77]; rfl
        rw [eo]
        refine ⟨fun z => absurd z (by decide), fun _ => s71 ⟨fun z => dr_of (e8 R1) (s77n R1 (fun h2 R2 => ⟨fun _ => ⟨fun y => absurd rfl y, fun _ => ?_⟩, fun y => absurd (by decide) y⟩)), fun z => absurd (g6.mpr (by omega)) z⟩⟩
        have l6 : l ≤ 6 := by omega
        have ec : comS (kd tx n) (np tx n) l q = marS (kd tx n) (np tx n) (np tx n q) := by
          unfold comS; rw [if_neg (by omega), if_pos ⟨w77, l6⟩]
        exact s74 R2 B hs hl (fun G' h' p' e R' F => ⟨_, rfl, c0 _ _ _ (ec.trans e) R' F.any⟩) (fun G' h' p' r e R' N => ⟨_, rfl, c1 _ _ _ _ _ (ec.trans e) l6 (by decide) R' N⟩)
      · by_cases w54 : 54 ≤ kd tx n q ∧ kd tx n q < 60
        · have eo : opS (kd tx n q) = nI (kd tx n q - 54) := if_pos w54
          rw [eo]
          have n6 : ¬ nI (kd tx n q - 54) = 6 := fun z => by
            have := (nI_eq (a := kd tx n q - 54) (b := 6) (by omega) (by omega)).mp z
            omega
          have n7 : ¬ nI (kd tx n q - 54) = 7 := fun z => by
            have := (nI_eq (a := kd tx n q - 54) (b := 7) (by omega) (by omega)).mp z
            omega
          have z0 : nI (kd tx n q - 54) = 0 ↔ kd tx n q = 54 := by
            refine ⟨fun z => ?_, fun z => by rw [z]; rfl⟩
            have := (nI_eq (a := kd tx n q - 54) (b := 0) (by omega) (by omega)).mp z
            omega
          have el : laS (nI (kd tx n q - 54)) = if kd tx n q = 54 then 3 else 2 := by
            unfold laS
            by_cases y : kd tx n q = 54
            · rw [if_pos (z0.mpr y), if_pos y]
            · rw [if_neg (fun z => y (z0.mp z)), if_neg n6, if_neg n7, if_neg y]
          refine ⟨fun z => absurd z (nI_m1 (by omega)), fun _ => s71 ?_⟩
          rw [el]
          have gl : lst l < (if kd tx n q = 54 then 3 else 2) ↔ ((kd tx n q = 54 ∧ l ≤ 3) ∨ (55 ≤ kd tx n q ∧ kd tx n q < 60 ∧ l ≤ 2)) := by
            by_cases y : kd tx n q = 54
            · rw [if_pos y, g3]; omega
            · rw [if_neg y, g2]; omega
          refine ⟨fun z => dr_of (e8 R1) (s77n R1 (fun h2 R2 => ⟨fun _ => ⟨fun _ => ?_, fun y => absurd n7 y⟩, fun y => absurd n6 y⟩)), fun z => no ?_⟩
          · have hl2 := gl.mp z
            have ec : comS (kd tx n) (np tx n) l q = nexS (kd tx n) (np tx n) l (kd tx n q - 54) (np tx n q) := by
              unfold comS; rw [if_neg (by omega), if_neg (by omega), if_pos hl2]
            have h159 : ∀ l4, (l4 = 7 ↔ (kd tx n q = 54 ∧ kd tx n (np tx n q) = 16)) → ¬ (kd tx n q = 54 ∧ 17 ≤ kd tx n (np tx n q) ∧ kd tx n (np tx n q) ≤ 23 ∧ l = 0) → P 159 [vR 8 (some 0), vR 7 (some s), vI (lst l), vI (nI (kd tx n q - 54)), vI l4] [] h2 := by
              intro l4 h4 n1
              refine v65_159 hP 0 (some s) (lst l) _ l4 h2 ⟨fun c7 => ?_, fun c7 => dr_of (e8 R2) (s77n R2 (fun h3 R3 => ?_))⟩
              · have c8 : ¬ (kd tx n q = 54 ∧ kd tx n (np tx n q) = 16) := fun y => c7 (h4.mpr y)
                have en : comS (kd tx n) (np tx n) l q = if l ≤ 2 then chaS (kd tx n) (np tx n) 2 (kd tx n q - 54 + 1) (np tx n q) else (none, np tx n q) := by
                  rw [ec]; unfold nexS; rw [if_neg (by omega), if_neg (by omega)]
                refine ⟨fun y => v65_200 hP 0 _ _ _ _ _ _ ⟨_, rfl, c0 _ _ _ (by rw [en, if_neg (by have := p2.mp y; omega)]) R2 F0⟩, fun y => ?_⟩
                have l2 : l ≤ 2 := by
                  rcases Nat.lt_or_ge l 3 with w | w
                  · omega
                  · exact absurd (p2.mpr w) y
                rw [if_pos l2] at en
                rw [nI_1]
                exact s67 (pl := 2) R2 B hs hl (by decide) (by omega) (fun G' h' p' e R' F => v65_200 hP 0 _ _ _ _ _ _ ⟨_, rfl, c0 _ _ _ (en.trans e) R' F.any⟩) (fun G' h' p' r e R' N => v65_200 hP 0 _ _ _ _ _ _ ⟨_, rfl, c1 _ _ _ _ _ (en.trans e) l2 (by decide) R' N⟩)
              · have c7 := Classical.not_not.mp c7
                have c8 := h4.mp c7
                have en : comS (kd tx n) (np tx n) l q = plaS (kd tx n) (np tx n) 3 7 (np tx n (np tx n q)) := by
                  rw [ec]; unfold nexS; rw [if_neg (by omega), if_pos (by omega)]
                rw [c7]
                exact s73 (pl := 3) (kind := 7) R3 B hs hl (by decide) (fun G' h' p' e R' F => ⟨_, rfl, c0 _ _ _ (en.trans e) R' F.any⟩) (fun G' h' p' r e R' N => ⟨_, rfl, c1 _ _ _ _ _ (en.trans e) (by omega) (by decide) R' N⟩)
            refine ⟨fun y => ?_, fun y => dr_of (e8 R2) (s81n R2 (by decide) ?_)⟩
            · have y : ¬ kd tx n q = 54 := fun w => y (z0.mpr w)
              have go := h159 (-1) ⟨fun w => absurd w (by decide), fun w => absurd w.1 y⟩ (fun w => y w.1)
              exact v65_123 hP 0 _ _ _ (-1) h2 ⟨fun _ => go, fun w => absurd (by decide) w⟩
            · have y : kd tx n q = 54 := z0.mp (Classical.not_not.mp y)
              rw [aT22]
              unfold kiS
              by_cases k9 : 9 ≤ kd tx n (np tx n q) ∧ kd tx n (np tx n q) < 40
              · rw [if_pos k9]
                have i7 : nI (kd tx n (np tx n q) - 9) = 7 ↔ (kd tx n q = 54 ∧ kd tx n (np tx n q) = 16) := by
                  refine ⟨fun w => ?_, fun w => by rw [w.2]; rfl⟩
                  have := (nI_eq (a := kd tx n (np tx n q) - 9) (b := 7) (by omega) (by omega)).mp w
                  omega
                have go := h159 _ i7
                refine v65_123 hP 0 _ _ _ _ h2 ⟨fun w => go ?_, fun w => ⟨fun w2 => go ?_, fun w2 => ⟨fun w3 => go ?_, fun w3 => dr_of (e8 R2) (s77n R2 (fun h3 R3 => ?_))⟩⟩⟩
                · have w := (nI_ltI (b := 8) (by omega) (by omega)).mp w
                  omega
                · have w2 := (nI_ltI (a := 14) (by omega) (by omega)).mp w2
                  omega
                · have w3 := p0.mp w3
                  omega
                · have w : ¬ kd tx n (np tx n q) - 9 < 8 := fun v => w ((nI_ltI (b := 8) (by omega) (by omega)).mpr v)
                  have w2 : ¬ 14 < kd tx n (np tx n q) - 9 := fun v => w2 ((nI_ltI (a := 14) (by omega) (by omega)).mpr v)
                  have w3 : ¬ 1 ≤ l := fun v => w3 (p0.mpr v)
                  have en : comS (kd tx n) (np tx n) l q = plaS (kd tx n) (np tx n) 0 (kd tx n (np tx n q) - 9) (np tx n (np tx n q)) := by
                    rw [ec]; unfold nexS; rw [if_pos (by omega)]
                  exact s73 (pl := 0) R3 B hs hl (by decide) (fun G' h' p' e R' F => ⟨_, rfl, c0 _ _ _ (en.trans e) R' F.any⟩) (fun G' h' p' r e R' N => ⟨_, rfl, c1 _ _ _ _ _ (en.trans e) (by omega) (by decide) R' N⟩)
              · rw [if_neg k9]
                have go := h159 (-1) ⟨fun w => absurd w (by decide), fun w => by omega⟩ (by omega)
                exact v65_123 hP 0 _ _ _ (-1) h2 ⟨fun _ => go, fun w => absurd (by decide) w⟩
          · have nl := fun y => z (gl.mpr y)
            unfold comS; rw [if_neg (by omega), if_neg (by omega), if_neg nl]
        · have eo : opS (kd tx n q) = -1 := by
            unfold opS; rw [if_neg w54, if_neg w76, if_neg w77]
          rw [eo]
          refine ⟨fun _ => no ?_, fun z => absurd rfl z⟩
          unfold comS; rw [if_neg (by omega), if_neg (by omega), if_neg (by omega)]
  have h9 : (l = 1 ∨ l = 4) → P 9 [vR 8 (some 0), vR 7 (some s), vI (lst l), un, un] [] h := by
    intro l14
    refine v65_9 hP 0 (some s) (lst l) h (dr_of (e8 R) (s79w (by decide) aT20 R (fun c => ⟨fun _ => h30 (fun z => c z.2), fun z => absurd rfl z⟩) (fun c h1 R1 => ⟨fun z => absurd z (by decide), fun _ => ?_⟩)))
    have em : memS (kd tx n) (np tx n) l p = onS (kd tx n) (np tx n) l (np tx n p) := by
      unfold memS; rw [if_pos ⟨l14, c⟩]
    have e1 : lst l + 1 = nI l := by
      unfold lst
      rw [if_neg (by omega), nI_1]; congr 1; omega
    rw [e1]
    exact s66 R1 B hs hl (by omega) (fun G' h' p' e R' F => ⟨_, rfl, k0 _ _ _ (em.trans e) R' F.any⟩) (fun G' h' p' r e R' N => ⟨_, rfl, k1 _ _ _ _ _ (em.trans e) (Nat.le_refl _) (by omega) R' N⟩)
  refine v65 hP 0 (some s) (lst l) h ⟨fun z => h9 (Or.inl (f0.mp z)), fun z => ⟨fun y => h30 (fun w => ?_), fun y => h9 (Or.inr (f3.mp (Classical.not_not.mp y)))⟩⟩
  rcases w.1 with u | u
  · exact z (f0.mpr u)
  · exact y (f3.mpr u)
