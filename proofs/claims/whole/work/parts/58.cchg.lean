/-! the class's readTincture, readAttitude, readDuties, readCharges, readPlain -/
def Bs (H : Hp) : Prop := 0 < jN H 8 ∧ jR H 8 0 0 = some 0
theorem Bs.fr {X : Nat → Nat → Nat → Prop} {c z : Nat} {H G : Hp} (B : Bs H) (F : Fr X c z H G) (hX : ∀ a k, ¬ X 8 a k) : Bs G := ⟨Nat.lt_of_lt_of_le B.1 (F.1 8), ((F.2.2.1 8 0 0 B.1 (hX 0 0)).2.1).trans B.2⟩
theorem NewP.b {H0 H : Hp} {pa pl : Nat} {r : Nat → Int32} (N : NewP H0 H pa pl r) (B : Bs H0) : jR H 8 0 0 = some 0 := (B.fr N.1 (fun _ _ z => absurd z.1 (by decide))).2
theorem s23 {d k t : Nat} {h : Hp} {K : Int32 → Hp → Prop} (h1 : 16 ≤ k) (h2 : k ≤ 29) (ht : t < 5) (kk : K (bi (haD k t)) h) : CI (d + 1) 23 [vI (nI k), vI (nI t)] h K := by
  intro P hP
  rw [had_eq h1 h2 ht] at kk
  have hc : t = 0 ∨ t = 1 ∨ t = 2 ∨ t = 3 ∨ t = 4 := by omega
  rcases hc with rfl | rfl | rfl | rfl | rfl
  · refine v23 hP (nI k) 0 h ⟨fun _ => ⟨fun c => ⟨_, rfl, ?_⟩, fun c => ⟨fun c2 => ⟨_, rfl, ?_⟩, fun c2 => ⟨fun c3 => ⟨_, rfl, ?_⟩, fun c3 => ⟨_, rfl, ?_⟩⟩⟩⟩, fun z => absurd rfl z⟩
    · simpa [bi, c] using kk
    · simpa [bi, c, c2] using kk
    · simpa [bi, c, c2, c3] using kk
    · simpa [bi, c, c2, Classical.not_not.mp c3] using kk
  · refine v23 hP (nI k) 1 h ⟨fun z => absurd z (by decide), fun _ => ⟨fun _ => ⟨fun c => ⟨_, rfl, ?_⟩, fun c => ⟨_, rfl, ?_⟩⟩, fun z => absurd rfl z⟩⟩
    · simpa [bi, c] using kk
    · simpa [bi, Classical.not_not.mp c] using kk
  · refine v23 hP (nI k) 2 h ⟨fun z => absurd z (by decide), fun _ => ⟨fun z => absurd z (by decide), fun _ => ⟨fun _ => ⟨fun c => ⟨_, rfl, ?_⟩, fun c => ⟨fun c2 => ⟨_, rfl, ?_⟩, fun c2 => ⟨_, rfl, ?_⟩⟩⟩, fun z => absurd rfl z⟩⟩⟩
    · simpa [bi, c] using kk
    · simpa [bi, c, c2] using kk
    · simpa [bi, c, Classical.not_not.mp c2] using kk
  · refine v23 hP (nI k) 3 h ⟨fun z => absurd z (by decide), fun _ => ⟨fun z => absurd z (by decide), fun _ => ⟨fun z => absurd z (by decide), fun _ => ⟨fun _ => ⟨fun c => ⟨_, rfl, ?_⟩, fun c => ⟨_, rfl, ?_⟩⟩, fun z => absurd rfl z⟩⟩⟩⟩
    · simpa [bi, c] using kk
    · simpa [bi, Classical.not_not.mp c] using kk
  · refine v23 hP (nI k) 4 h ⟨fun z => absurd z (by decide), fun _ => ⟨fun z => absurd z (by decide), fun _ => ⟨fun z => absurd z (by decide), fun _ => ⟨fun z => absurd z (by decide), fun _ => ⟨fun _ => ⟨fun c => ⟨_, rfl, ?_⟩, fun c => ⟨_, rfl, ?_⟩⟩, fun z => absurd rfl z⟩⟩⟩⟩⟩
    · simpa [bi, c] using kk
    · simpa [bi, Classical.not_not.mp c] using kk
section
variable {d n a pa pl p : Nat} {tx : Nat → Int32} {H G h : Hp} {r : Nat → Int32} {K : Int32 → Hp → Prop}
/-- readTincture(piece) -/
theorem s69 (R : TkN G h 0 a n tx p) (N : NewP H G pa pl r) (B : Bs H) (k0 : ¬ kd tx n p < 9 → ∀ G' h' r', TkN G' h' 0 a n tx p → NewP H G' pa pl r' → K 0 h') (k1 : kd tx n p < 9 → ∀ G' h', TkN G' h' 0 a n tx (np tx n p) → NewP H G' pa pl (st r 1 (nI (kd tx n p))) → K 1 h') : CI (d + 5) 69 [vR 8 (some 0), vR 3 (some (jN H 3))] h K := by
  intro P hP
  refine v69 hP 0 (some (jN H 3)) h (dr_of (by rw [R.R]; exact N.b B) (s80t R (fun c => ?_) (fun c h2 R2 => ?_)))
  · exact dr_of rfl (dr_of rfl ⟨fun _ => ⟨_, rfl, k0 c _ _ _ (R.wI (t := 3) (jN H 3) 4 (-1) (by decide) (by decide)) (N.w (-1)).2.1⟩, fun z => absurd (jI_same _ _ _ _ _) z⟩)
  · exact dr_of rfl (dr_of rfl ⟨fun z => absurd z (by rw [jI_same]; exact nI_m1 (by omega)), fun _ => ⟨_, rfl, k1 c _ _ (R2.wI (t := 3) (jN H 3) 4 (nI (kd tx n p)) (by decide) (by decide)) (N.w _).2.1⟩⟩)
/-- readAttitude(piece) -/
theorem s68 {kind : Nat} (R : TkN G h 0 a n tx p) (N : NewP H G pa pl r) (B : Bs H) (hr : r 0 = nI kind) (h16 : 16 ≤ kind) (h29 : kind ≤ 29) (kn : ¬ kind ≤ 19 → K 1 h) (k0 : kind ≤ 19 → ¬ atK kind (kd tx n p) = true → K 0 h) (k1 : kind ≤ 19 → atK kind (kd tx n p) = true → ∀ G' h', TkN G' h' 0 a n tx (np tx n p) → NewP H G' pa pl (st r 3 (nI (kd tx n p - 59))) → K 1 h') : CI (d + 4) 68 [vR 8 (some 0), vR 3 (some (jN H 3))] h K := by
  intro P hP
  have ek : jI h 3 (jN H 3) 1 = nI kind := by rw [R.I (by decide), N.2.2.2.2.2.1, hr]
  have e8 : jR h 8 0 0 = some 0 := by rw [R.R]; exact N.b B
  have e30 := aT30 (kd tx n p)
  unfold rngS at e30
  have go : kind ≤ 19 → atK kind (kd tx n p) = true → amT 30 (kd tx n p) + 1 = nI (kd tx n p - 59) → dr (some (jN H 3)) (fun a9 => dr (jR (wI h 3 a9 3 (amT 30 (kd tx n p) + 1)) 8 0 0) (fun a10 => CV (d + 3) 77 [vR 9 (some a10)] (wI h 3 a9 3 (amT 30 (kd tx n p) + 1)) (fun h11 => (fun v h' => ∃ x, v = some (vI x) ∧ K x h') (some (vI 1)) h11))) := by
    intro c1 c2 e
    rw [e]
    exact dr_of rfl (dr_of e8 (s77n (R.wI (t := 3) (jN H 3) 3 (nI (kd tx n p - 59)) (by decide) (by decide)) (fun h' R' => ⟨_, rfl, k1 c1 c2 _ _ R' (N.w _).1⟩)))
  refine v68 hP 0 (some (jN H 3)) h (dr_of rfl ⟨fun c => dr_of e8 (s81n R (by decide) (dr_of rfl ⟨fun c19 => ?_, fun c19 => ?_⟩)), fun c => ⟨_, rfl, kn (fun z => c (by rw [ek]; exact nI_le (b := 19) z (by omega)))⟩⟩)
  · have c : kind ≤ 19 := by rw [ek] at c; exact (nI_leI (b := 19) (by omega) (by omega)).mp c
    have c19 : ¬ kind = 19 := fun z => c19 (by rw [ek, z]; rfl)
    have ea : atK kind (kd tx n p) = decide (60 ≤ kd tx n p ∧ kd tx n p ≤ 62) := if_neg c19
    by_cases y : 60 ≤ kd tx n p ∧ kd tx n p < 65
    · have e1 : amT 30 (kd tx n p) + 1 = nI (kd tx n p - 59) := by
        rw [e30, if_pos y, nI_1]; congr 1; omega
      refine ⟨fun z => absurd (by rw [e1] at z; exact z) (nI_nle (by omega) (by omega)), fun _ => ⟨fun z => ⟨_, rfl, k0 c ?_⟩, fun z => go c ?_ e1⟩⟩
      · rw [e1] at z
        have z := (nI_ltI (a := 3) (by omega) (by omega)).mp z
        rw [ea, decide_eq_true_eq]; omega
      · rw [e1] at z
        have z : ¬ 3 < kd tx n p - 59 := fun w => z ((nI_ltI (a := 3) (by omega) (by omega)).mpr w)
        rw [ea, decide_eq_true_eq]; omega
    · have e1 : amT 30 (kd tx n p) + 1 = 0 := by rw [e30, if_neg y]; decide
      exact ⟨fun _ => ⟨_, rfl, k0 c (by rw [ea, decide_eq_true_eq]; omega)⟩, fun z => absurd (by rw [e1]; decide) z⟩
  · have c : kind ≤ 19 := by rw [ek] at c; exact (nI_leI (b := 19) (by omega) (by omega)).mp c
    have c19 : kind = 19 := by
      have z := Classical.not_not.mp c19
      rw [ek] at z
      exact (nI_eq (a := kind) (b := 19) (by omega) (by omega)).mp z
    have ea : atK kind (kd tx n p) = decide (63 ≤ kd tx n p ∧ kd tx n p ≤ 64) := if_pos c19
    by_cases y : 60 ≤ kd tx n p ∧ kd tx n p < 65
    · have e1 : amT 30 (kd tx n p) + 1 = nI (kd tx n p - 59) := by
        rw [e30, if_pos y, nI_1]; congr 1; omega
      refine ⟨fun z => ⟨_, rfl, k0 c ?_⟩, fun z => go c ?_ e1⟩
      · rw [e1] at z
        have z := (nI_leI (b := 3) (by omega) (by omega)).mp z
        rw [ea, decide_eq_true_eq]; omega
      · rw [e1] at z
        have z : ¬ kd tx n p - 59 ≤ 3 := fun w => z ((nI_leI (b := 3) (by omega) (by omega)).mpr w)
        rw [ea, decide_eq_true_eq]; omega
    · have e1 : amT 30 (kd tx n p) + 1 = 0 := by rw [e30, if_neg y]; decide
      exact ⟨fun _ => ⟨_, rfl, k0 c (by rw [ea, decide_eq_true_eq]; omega)⟩, fun z => absurd (by rw [e1]; decide) z⟩
end
/-- readDuties(piece) -/
theorem d70 {d n a pa pl kind : Nat} {tx : Nat → Int32} {H : Hp} {K : Int32 → Hp → Prop} {P : Nat → List AV → List AV → Hp → Prop} (hP : Cl (Call (d + 4)) 70 (fun v h' => ∃ x, v = some (vI x) ∧ K x h') P) (B : Bs H) (h16 : 16 ≤ kind) (h29 : kind ≤ 29) : ∀ (mm t : Nat) (r : Nat → Int32) (G h : Hp) (p : Nat), t + mm = 5 → r 0 = nI kind → TkN G h 0 a n tx p → NewP H G pa pl r → (∀ G' h' r' p', dutS (kd tx n) (np tx n) kind mm t p r = (none, p') → TkN G' h' 0 a n tx p' → NewP H G' pa pl r' → K 0 h') → (∀ G' h' r' p', dutS (kd tx n) (np tx n) kind mm t p r = (some r', p') → TkN G' h' 0 a n tx p' → NewP H G' pa pl r' → K 1 h') → P 2 [vR 8 (some 0), vR 3 (some (jN H 3)), vI (nI t)] [] h
  | 0, t, r, G, h, p, ht, hr, R, N, k0, k1 => by
    exact v70_2 hP 0 (some (jN H 3)) (nI t) h ⟨fun _ => ⟨_, rfl, k1 _ _ r p rfl R N⟩, fun c => absurd (nI_le (a := 5) (by omega) (by omega)) c⟩
  | mm + 1, t, r, G, h, p, ht, hr, R, N, k0, k1 => by
    have ek : jI h 3 (jN H 3) 1 = nI kind := by rw [R.I (by decide), N.2.2.2.2.2.1, hr]
    have e8 : jR h 8 0 0 = some 0 := by rw [R.R]; exact N.b B
    have e31 := aT31 (kd tx n p)
    unfold rngS at e31
    unfold dutS at k0 k1
    have skip : ¬ (haD kind t = true ∧ kd tx n p = 65 + t) → P 2 [vR 8 (some 0), vR 3 (some (jN H 3)), vI (nI t + 1)] [] h := by
      intro z
      rw [if_neg z] at k0 k1
      rw [nI_1]
      exact d70 hP B h16 h29 mm (t + 1) r G h p (by omega) hr R N k0 k1
    refine v70_2 hP 0 (some (jN H 3)) (nI t) h ⟨fun c => absurd c (nI_ge (b := 5) (by omega) (by omega)), fun _ => dr_of e8 (s81n R (by decide) ⟨fun c => skip (fun z => c ?_), fun c => dr_of rfl ?_⟩)⟩
    · rw [e31, if_pos (by omega), z.2, show 65 + t - 65 = t by omega]
    · have c : kd tx n p = 65 + t := by
        have c := Classical.not_not.mp c
        by_cases y : 65 ≤ kd tx n p ∧ kd tx n p < 70
        · rw [e31, if_pos y] at c
          have := (nI_eq (by omega) (by omega)).mp c
          omega
        · rw [e31, if_neg y] at c
          exact absurd c.symm (nI_m1 (by omega))
      rw [ek]
      refine s23 h16 h29 (by omega) ⟨fun c2 => skip (fun z => ?_), fun c2 => dr_of e8 (s77n R (fun h2 R2 => dr_of rfl (dr_of (by rw [R2.R]; exact N.b B) ?_)))⟩
      · rw [z.1] at c2; exact absurd c2 (by decide)
      · have c3 : haD kind t = true := by
          cases hh : haD kind t with
          | true => rfl
          | false => rw [hh] at c2; exact absurd rfl c2
        rw [if_pos ⟨c3, c⟩] at k0 k1
        have da : ∀ {g : Hp} {q : Nat}, TkN G g 0 a n tx q → jR g 3 (jN H 3) 5 = some (jN H 21) ∧ jLen g 21 (jN H 21) = 5 := fun T => ⟨by rw [T.R]; exact N.2.2.2.2.2.2.2.2.2.1, by rw [T.len]; exact N.2.2.2.2.2.2.2.2.2.2.1⟩
        have it : ix (nI t) = t := nI_clamp (by omega)
        have vv : ∀ {g : Hp}, jLen g 21 (jN H 21) = 5 → vp_in (nI t) (jLen g 21 (jN H 21)) := fun e => by rw [e]; exact vp_in_nI (by omega) (by decide)
        rw [it]
        refine s80t R2 (fun c4 => ?_) (fun c4 h4 R4 => ?_)
        · rw [if_neg c4] at k0
          exact dr_of (da R2).1 ⟨vv (da R2).2, dr_of rfl (dr_of (da R2).1 ⟨vv (da R2).2, fun z => absurd (jI_same _ _ _ _ _) z, fun _ => ⟨_, rfl, k0 _ _ _ _ rfl (R2.wI (t := 21) (jN H 21) t (-1) (by decide) (by decide)) ((N.w (-1)).2.2 t (by omega))⟩⟩)⟩
        · rw [if_pos c4] at k0 k1
          refine dr_of (da R2).1 ⟨vv (da R4).2, dr_of rfl (dr_of (da R4).1 ⟨vv (da R4).2, fun _ => ?_, fun z => absurd (by rw [jI_same]; exact nI_m1 (by omega)) z⟩)⟩
          rw [nI_1]
          exact d70 hP B h16 h29 mm (t + 1) _ _ _ _ (by omega) (by rw [st_ne (by omega)]; exact hr) (R4.wI (t := 21) (jN H 21) t (nI (kd tx n (np tx n p))) (by decide) (by decide)) ((N.w _).2.2 t (by omega)) k0 k1
theorem s70 {d n a pa pl p kind : Nat} {tx : Nat → Int32} {H G h : Hp} {r : Nat → Int32} {K : Int32 → Hp → Prop} (R : TkN G h 0 a n tx p) (N : NewP H G pa pl r) (B : Bs H) (hr : r 0 = nI kind) (h16 : 16 ≤ kind) (h29 : kind ≤ 29) (k0 : ∀ G' h' r' p', dutS (kd tx n) (np tx n) kind 5 0 p r = (none, p') → TkN G' h' 0 a n tx p' → NewP H G' pa pl r' → K 0 h') (k1 : ∀ G' h' r' p', dutS (kd tx n) (np tx n) kind 5 0 p r = (some r', p') → TkN G' h' 0 a n tx p' → NewP H G' pa pl r' → K 1 h') : CI (d + 5) 70 [vR 8 (some 0), vR 3 (some (jN H 3))] h K := fun P hP => v70 hP 0 (some (jN H 3)) h (d70 (t := 0) hP B h16 h29 5 r G h p rfl hr R N k0 k1)
