/-! the class's pointsOf -/
def PoI (h g : Hp) (f : Nat → Nat) : Prop := Fr XE 1 9 h g ∧ jN h 21 < jN g 21 ∧ jLen g 21 (jN h 21) = 9 ∧ ∀ t, t < 9 → jI g 21 (jN h 21) t = nI (f t)
theorem PoI.w {h g : Hp} {f f' : Nat → Nat} {u : Nat} (I : PoI h g f) (hu : f' u = f u + 1) (ho : ∀ t, t < 9 → t ≠ u → f' t = f t) (hu9 : u < 9) : PoI h (wI g 21 (jN h 21) u (jI g 21 (jN h 21) u + 1)) f' := by
  obtain ⟨i1, i2, i3, i4⟩ := I
  refine ⟨i1.wI _ (Or.inl (Nat.le_refl _)), i2, i3, fun t ht => ?_⟩
  by_cases e : t = u
  · subst e; rw [jI_same, i4 t ht, nI_1, hu]
  · rw [jI_k e, i4 t ht, ho t ht e]
theorem PoI.same {h g : Hp} {f f' : Nat → Nat} (I : PoI h g f) (ho : ∀ t, t < 9 → f' t = f t) : PoI h g f' := ⟨I.1, I.2.1, I.2.2.1, fun t ht => by rw [I.2.2.2 t ht, ho t ht]⟩
theorem XEf {G G' : Hp} {c z s pa : Nat} {sh : Nat → Int32} (Q : ShOK G s pa sh) (F : Fr XE c z G G') : ShOK G' s pa sh := Q.fr F ⟨fun _ _ w => w, fun _ _ _ w => w, fun _ _ w => w, fun _ w => w⟩
theorem c225 {d s pa : Nat} {sh : Nat → Int32} {h : Hp} {K : Option Nat → Hp → Prop} {P : Nat → List AV → List AV → Hp → Prop} (hP : Cl (Call (d + 6)) 225 (fun v h' => ∃ x, v = some (vR 21 x) ∧ K x h') P) (Q : ShOK h s pa sh) (V : ShV sh) (F : FtV sh) (y : Nat) (go : ∀ g w4, PoI h g (fun t => cY sh t (y + 1)) → P 7 [vR 7 (some s), vR 21 (some (jN h 21)), vI (nI y + 1), vI 60, w4] [] g) : ∀ q x w4 g, x + q = 60 → PoI h g (fun t => cY sh t y + cX sh t y x) → P 15 [vR 7 (some s), vR 21 (some (jN h 21)), vI (nI y), vI (nI x), w4] [] g
  | 0, x, w4, g, hq, I => by
    have e : x = 60 := by omega
    subst e
    exact v225_15 hP (some s) (some (jN h 21)) (nI y) (nI 60) w4 g ⟨fun _ => go g w4 I, fun c => absurd (by decide) c⟩
  | q + 1, x, w4, g, hq, I => by
    have ih := fun w g => c225 hP Q V F y go q (x + 1) w g (by omega)
    rw [← nI_1] at ih
    refine v225_15 hP (some s) (some (jN h 21)) (nI y) (nI x) w4 g ⟨fun c => absurd c (nI_ge (b := 60) (by omega) (by omega)), fun _ => s213 (XEf Q I.1) V ?_⟩
    have hv := ptS_v (x := nI x) (y := nI y) V F
    rcases hv with e | ⟨u, hu, e⟩
    · rw [e]
      refine ⟨fun _ => ih _ _ (I.same (fun t ht => ?_)), fun c => absurd (by decide) c⟩
      show cY sh t y + cX sh t y (x + 1) = cY sh t y + cX sh t y x
      have : cX sh t y (x + 1) = cX sh t y x + (if ptS sh (nI x) (nI y) = nI t then 1 else 0) := rfl
      rw [this, e, if_neg (fun z => nI_m1 (by omega) z.symm)]
      rfl
    · rw [e]
      refine ⟨fun c => absurd c (nI_pos (by omega)), fun _ => ⟨fun c => absurd c (nI_ge (b := 9) hu (by decide)), fun _ => dr_of rfl ⟨?_, dr_of rfl ⟨?_, ih _ _ ?_⟩⟩⟩⟩
      · rw [I.2.2.1]; exact vp_in_nI hu (by decide)
      · rw [I.2.2.1]; exact vp_in_nI hu (by decide)
      · rw [show ix (nI u) = u from nI_clamp (by omega)]
        refine I.w ?_ (fun t ht9 ht => ?_) hu
        · show cY sh u y + cX sh u y (x + 1) = cY sh u y + cX sh u y x + 1
          have : cX sh u y (x + 1) = cX sh u y x + (if ptS sh (nI x) (nI y) = nI u then 1 else 0) := rfl
          rw [this, e, if_pos rfl]
          rfl
        · show cY sh t y + cX sh t y (x + 1) = cY sh t y + cX sh t y x
          have : cX sh t y (x + 1) = cX sh t y x + (if ptS sh (nI x) (nI y) = nI t then 1 else 0) := rfl
          rw [this, e, if_neg ?_]
          · rfl
          · intro z
            exact absurd ((nI_eq (by omega) (by omega)).mp z).symm ht
theorem c225y {d s pa : Nat} {sh : Nat → Int32} {h : Hp} {K : Option Nat → Hp → Prop} {P : Nat → List AV → List AV → Hp → Prop} (hP : Cl (Call (d + 6)) 225 (fun v h' => ∃ x, v = some (vR 21 x) ∧ K x h') P) (Q : ShOK h s pa sh) (V : ShV sh) (F : FtV sh) (kk : ∀ g, PoI h g (fun t => cY sh t 72) → K (some (jN h 21)) g) : ∀ q y w3 w4 g, y + q = 72 → PoI h g (fun t => cY sh t y) → P 7 [vR 7 (some s), vR 21 (some (jN h 21)), vI (nI y), w3, w4] [] g
  | 0, y, w3, w4, g, hq, I => by
    have e : y = 72 := by omega
    subst e
    exact v225_7 hP (some s) (some (jN h 21)) (nI 72) w3 w4 g ⟨fun _ => ⟨_, rfl, kk g I⟩, fun c => absurd (by decide) c⟩
  | q + 1, y, w3, w4, g, hq, I => by
    have ih := fun w g => c225y hP Q V F kk q (y + 1) (vI 60) w g (by omega)
    rw [← nI_1] at ih
    exact v225_7 hP (some s) (some (jN h 21)) (nI y) w3 w4 g ⟨fun c => absurd c (nI_ge (b := 72) (by omega) (by omega)), fun _ => c225 (x := 0) hP Q V F y (fun g w => ih w g) 60 w4 g rfl I⟩
/-- pointsOf(shield) -/
theorem s225 {d s pa : Nat} {sh : Nat → Int32} {h : Hp} {K : Option Nat → Hp → Prop} (Q : ShOK h s pa sh) (V : ShV sh) (F : FtV sh) (kk : ∀ g, PoI h g (fun t => cY sh t 72) → K (some (jN h 21)) g) : CR (d + 7) 225 21 [vR 7 (some s)] h K := by
  intro P hP
  refine v225 hP (some s) h (fun a1 h2 e1 e2 => ?_)
  subst e1
  refine c225y (y := 0) hP Q V F kk 72 un un h2 rfl ⟨?_, ?_, ?_, fun t ht => ?_⟩
  · rw [e2]; exact (Fr.refl XE h).mk 21 9 9
  · rw [e2]; show jN h 21 < if 21 = 21 then jN h 21 + 1 else jN h 21
    rw [if_pos rfl]; omega
  · rw [e2]; exact if_pos ⟨rfl, rfl⟩
  · rw [e2]; exact mk_I _ _ _ _ _
