/-! the reference's field() -/
theorem st_self {f : Nat → Int32} {k : Nat} {v : Int32} (h : f k = v) : st f k v = f := by
  funext j
  unfold st
  by_cases e : j = k
  · rw [if_pos e, e, h]
  · rw [if_neg e]
theorem vp61 {k i : Nat} {g : Hp} (hk : k ≤ 60) (e : jLen g 21 i = 61) : vp_in (nI k) (jLen g 21 i) := by
  rw [e]; exact vp_in_nI (by omega) (by decide)
/-- the first parting from t on, among m, that code c names -/
def fmS (c : Nat) : Nat → Nat → Nat
  | _, 0 => 0
  | t, m + 1 => if c = paC t then t else fmS c (t + 1) m
section
variable {d n k q : Nat} {tx : Nat → Int32} {H : Hp} {Q : Option AV → Hp → Prop} {P : Nat → List AV → List AV → Hp → Prop}
theorem f60x (hP : Cl (Call d) 129 Q P) (S : RSh H) (hk : k ≤ 60) {sh : Nat → Int32} {h : Hp} {per t : Int32} (R : RtN (rowH H k sh) h 0 1 n tx q) (h0 : ¬ sh 0 = 0) (kk : P 108 [vR 11 (some 0), vI (nI k), vI per, vI t] [] h) : P 60 [vR 11 (some 0), vI (nI k), vI per, vI t] [] h := by
  have SR : RSh h := S.of R.R R.len
  have ik : ix (nI k) = k := nI_clamp (by omega)
  have e0 : jI h 21 0 k = sh 0 := by rw [R.I (by decide), row_r0 _ _ _ (by decide)]
  have G : ∀ hi, P 71 [vR 11 (some 0), vI (nI k), vI per, vI t] [vI hi, vI t] h := fun hi => v129_71 hP 0 (nI k) per t hi t h ⟨fun _ => kk, fun _ => dr_of SR.r12 ⟨vp61 hk SR.n12, fun _ => kk, fun c => absurd (by rw [ik, e0]; exact h0) c⟩⟩
  exact v129_60 hP 0 (nI k) per t h ⟨fun _ => G 10, fun _ => G 5⟩
theorem f60 {hi : Nat} {per : Int32} (hP : Cl (Call (d + 2)) 129 Q P) (S : RSh H) (hk : k ≤ 60) (hper : (per = 0 ∧ hi = 10) ∨ (¬ per = 0 ∧ hi = 5)) : ∀ (m t : Nat) (sh : Nat → Int32) (h : Hp), t + m = hi + 1 → 1 ≤ t → sh 0 = 0 → RtN (rowH H k sh) h 0 1 n tx q → (∀ h' x, RtN (rowH H k (st sh 0 (nI (fmS (kd tx n q) t m)))) h' 0 1 n tx q → P 108 [vR 11 (some 0), vI (nI k), vI per, vI x] [] h') → P 60 [vR 11 (some 0), vI (nI k), vI per, vI (nI t)] [] h
  | 0, t, sh, h, ht, h1, h0, R, kk => by
    have hh : hi ≤ 10 := by omega
    have kk := kk h (nI t) (by
      have e : st sh 0 (nI (fmS (kd tx n q) t 0)) = sh := st_self h0
      rw [e]; exact R)
    have G : P 71 [vR 11 (some 0), vI (nI k), vI per, vI (nI t)] [vI (nI hi), vI (nI t)] h := v129_71 hP 0 (nI k) per (nI t) (nI hi) (nI t) h ⟨fun _ => kk, fun c => absurd (nI_lt (by omega) (by omega)) c⟩
    refine v129_60 hP 0 (nI k) per (nI t) h ⟨fun z => ?_, fun z => ?_⟩
    · rcases hper with y | y
      · rw [y.2] at G; exact G
      · exact absurd z y.1
    · rcases hper with y | y
      · exact absurd y.1 z
      · rw [y.2] at G; exact G
  | m + 1, t, sh, h, ht, h1, h0, R, kk => by
    have hh : hi ≤ 10 := by omega
    have SR : RSh h := S.of R.R R.len
    have ik : ix (nI k) = k := nI_clamp (by omega)
    have e0 : jI h 21 0 k = sh 0 := by rw [R.I (by decide), row_r0 _ _ _ (by decide)]
    have G : P 71 [vR 11 (some 0), vI (nI k), vI per, vI (nI t)] [vI (nI hi), vI (nI t)] h := by
      refine v129_71 hP 0 (nI k) per (nI t) (nI hi) (nI t) h ⟨fun c => absurd c (nI_nlt (by omega) (by omega)), fun _ => dr_of SR.r12 ⟨vp61 hk SR.n12, fun c => absurd (by rw [ik, e0]; exact h0) c, fun _ => s135 R.2 h1 (by omega) ⟨fun c => ?_, fun c => ?_⟩⟩⟩
      · have c := bi0.mp c
        refine v129_101 hP 0 (nI k) per (nI t) 0 (nI k) _ h (dr_of SR.r12 ⟨vp61 hk SR.n12, ?_⟩)
        rw [ik, nI_1]
        have R2 := R.wI (t := 21) 0 k 0 (by decide) (by decide)
        rw [row_w0 _ _ _ _ (by decide), st_self h0] at R2
        refine f60 hP S hk hper m (t + 1) sh _ (by omega) (by omega) h0 R2 ?_
        unfold fmS at kk
        rw [if_neg c] at kk
        exact kk
      · have c : kd tx n q = paC t := Classical.not_not.mp (fun y => c (bi0.mpr y))
        refine v129_101 hP 0 (nI k) per (nI t) (nI t) (nI k) _ h (dr_of SR.r12 ⟨vp61 hk SR.n12, ?_⟩)
        rw [ik, nI_1]
        have R2 := R.wI (t := 21) 0 k (nI t) (by decide) (by decide)
        rw [row_w0 _ _ _ _ (by decide)] at R2
        refine f60x hP S hk R2 (by rw [st_eq]; exact nI_ne0 (by omega) (by omega)) ?_
        unfold fmS at kk
        rw [if_pos c] at kk
        exact kk _ _ R2
    refine v129_60 hP 0 (nI k) per (nI t) h ⟨fun z => ?_, fun z => ?_⟩
    · rcases hper with y | y
      · rw [y.2] at G; exact G
      · exact absurd z y.1
    · rcases hper with y | y
      · exact absurd y.1 z
      · rw [y.2] at G; exact G
theorem f108 {d n k q pa : Nat} {tx : Nat → Int32} {H : Hp} {K : Int32 → Hp → Prop} {P : Nat → List AV → List AV → Hp → Prop} (hP : Cl (Call (d + 3)) 129 (fun v h' => ∃ x, v = some (vI x) ∧ K x h') P) (S : RSh H) (hk : k ≤ 60) (hpa : pa ≤ 10) {sh : Nat → Int32} {h : Hp} {per t : Int32} (R : RtN (rowH H k sh) h 0 1 n tx q) (h0 : sh 0 = nI pa) (k0 : pa = 0 → K 0 h) (k1 : ¬ pa = 0 → ∀ sh' h' p', fld2 (kd tx n) (np tx n) pa (np tx n q) = (none, p') → RtN (rowH H k sh') h' 0 1 n tx p' → K 0 h') (k2 : ¬ pa = 0 → ∀ a b c sh' h' p', fld2 (kd tx n) (np tx n) pa (np tx n q) = (some (a, b, c), p') → sh' 0 = nI a → sh' 1 = nI b → sh' 2 = tnI c → (∀ j, 3 ≤ j → sh' j = sh j) → RtN (rowH H k sh') h' 0 1 n tx p' → K 1 h') : P 108 [vR 11 (some 0), vI (nI k), vI per, vI t] [] h := by
  have SR : RSh h := S.of R.R R.len
  have ik : ix (nI k) = k := nI_clamp (by omega)
  have e0 : jI h 21 0 k = nI pa := by rw [R.I (by decide), row_r0 _ _ _ (by decide), h0]
  refine v129_108 hP 0 (nI k) per t h ?_
  rw [ik]
  refine dr_of SR.r12 ⟨vp61 hk SR.n12, fun c => ?_, fun c => ⟨_, rfl, k0 ?_⟩⟩
  · have z : ¬ pa = 0 := fun y => c (by rw [e0, y]; rfl)
    refine s125n R (fun h2 R2 => ?_)
    have S2 : RSh h2 := S.of R2.R R2.len
    unfold fld2 at k1 k2
    refine s130 R2 (fun c3 => ?_) (fun c3 h3 R3 => ?_)
    · rw [if_neg c3] at k1
      have R3 := R2.wI (t := 21) 1 k (-1) (by decide) (by decide)
      rw [row_w0 _ _ _ _ (by decide)] at R3
      exact dr_of S2.r13 ⟨vp61 hk S2.n13, dr_of S2.r13 ⟨vp61 hk S2.n13, fun _ => v129_153 hP 0 (nI k) per t _ ⟨_, rfl, k1 z _ _ _ rfl R3⟩, fun y => absurd (jI_same _ _ _ _ _) y⟩⟩
    · rw [if_pos c3] at k1 k2
      have S3 : RSh h3 := S.of R3.R R3.len
      have R4 := R3.wI (t := 21) 1 k (nI (kd tx n (np tx n q))) (by decide) (by decide)
      rw [row_w0 _ _ _ _ (by decide)] at R4
      refine dr_of S2.r13 ⟨vp61 hk S3.n13, dr_of S3.r13 ⟨vp61 hk S3.n13, fun y => absurd y (by rw [jI_same]; exact nI_m1 (by omega)), fun _ => s134 (i := 78) R4 (by decide +kernel) (fun c5 h5 R5 => ?_) (fun c5 => ?_)⟩⟩
      · rw [if_pos c5] at k1 k2
        have S5 : RSh h5 := S.of R5.R R5.len
        refine ⟨fun _ => s131 R5.2 ?_, fun y => absurd (by decide) y⟩
        have e1 : jI h5 21 1 k = nI (kd tx n (np tx n q)) := by rw [R5.I (by decide), row_r0 _ _ _ (by decide), st_eq]
        unfold tiS
        by_cases c6 : kd tx n (np tx n (np tx n (np tx n q))) < 9
        · rw [if_pos c6]
          refine ⟨fun y => absurd y (nI_m1 (by omega)), fun _ => dr_of S5.r13 ⟨vp61 hk S5.n13, fun c7 => ?_, fun c7 => ?_⟩⟩
          · rw [e1] at c7
            have c8 : kd tx n (np tx n (np tx n (np tx n q))) ≠ kd tx n (np tx n q) := fun y => c7 (by rw [y])
            rw [if_pos ⟨c6, c8⟩] at k2
            have R6 := R5.wI (t := 21) 2 k (nI (kd tx n (np tx n (np tx n (np tx n q))))) (by decide) (by decide)
            rw [row_w0 _ _ _ _ (by decide)] at R6
            refine dr_of S5.r14 ⟨vp61 hk S5.n14, s125n R6 (fun h7 R7 => ⟨_, rfl, k2 z _ _ _ _ _ _ rfl ?_ ?_ ?_ ?_ R7⟩)⟩
            · rw [st_ne (by decide), st_ne (by decide), h0]
            · rw [st_ne (by decide), st_eq]
            · rw [st_eq]; unfold tnI; rw [if_neg (by omega)]
            · intro j hj; rw [st_ne (by omega), st_ne (by omega)]
          · rw [e1] at c7
            have c8 : kd tx n (np tx n (np tx n (np tx n q))) = kd tx n (np tx n q) := (nI_eq (by omega) (by omega)).mp (Classical.not_not.mp c7)
            rw [if_neg (fun y => y.2 c8)] at k1
            exact v129_175 hP 0 (nI k) per _ _ ⟨_, rfl, k1 z _ _ _ rfl R5⟩
        · rw [if_neg c6]
          rw [if_neg (fun y => c6 y.1)] at k1
          exact ⟨fun _ => v129_175 hP 0 (nI k) per _ _ ⟨_, rfl, k1 z _ _ _ rfl R5⟩, fun y => absurd rfl y⟩
      · rw [if_neg c5] at k1
        exact ⟨fun y => absurd rfl y, fun _ => v129_153 hP 0 (nI k) per t _ ⟨_, rfl, k1 z _ _ _ rfl R4⟩⟩
  · have := Classical.not_not.mp c
    rw [e0] at this
    exact (nI_eq (a := pa) (b := 0) (by omega) (by omega)).mp this
theorem fm_per (c : Nat) : fmS c 1 5 = lnS c := by
  unfold lnS
  simp only [fmS, paC, List.getD_eq_getElem?_getD, List.getElem?_cons_succ, List.getElem?_cons_zero, Option.getD_some]
theorem fm_not (c : Nat) : fmS c 6 5 = if 71 ≤ c ∧ c ≤ 75 then c - 65 else 0 := by
  simp only [fmS, paC, List.getD_eq_getElem?_getD, List.getElem?_cons_succ, List.getElem?_cons_zero, Option.getD_some]
  split
  · rename_i z; subst z; rfl
  · split
    · rename_i z; subst z; rfl
    · split
      · rename_i z; subst z; rfl
      · split
        · rename_i z; subst z; rfl
        · split
          · rename_i z; subst z; rfl
          · rw [if_neg (by omega)]
end
/-- field() -/
theorem s129 {d n p k : Nat} {tx : Nat → Int32} {H h : Hp} {sh : Nat → Int32} {K : Int32 → Hp → Prop} (R : RtN (rowH H k sh) h 0 1 n tx p) (S : RSh H) (hk : jI H 11 0 11 = nI k) (hk60 : k ≤ 60) (k0 : ∀ sh' h' p', fldS (kd tx n) (np tx n) p = (none, p') → RtN (rowH H k sh') h' 0 1 n tx p' → K 0 h') (k1 : ∀ a b c sh' h' p', fldS (kd tx n) (np tx n) p = (some (a, b, c), p') → sh' 0 = nI a → sh' 1 = nI b → sh' 2 = tnI c → (∀ j, 3 ≤ j → sh' j = sh j) → RtN (rowH H k sh') h' 0 1 n tx p' → K 1 h') : CI (d + 4) 129 [vR 11 (some 0)] h K := by
  intro P hP
  have hk' : jI h 11 0 11 = nI k := by rw [R.Io (by decide), row_t (by decide)]; exact hk
  have ik : ix (nI k) = k := nI_clamp (by omega)
  have SR : RSh h := S.of R.R R.len
  refine v129 hP 0 h ?_
  rw [hk', ik]
  have R1 := (R.wI (t := 21) 0 k 0 (by decide) (by decide)).wI (t := 21) 2 k (-1) (by decide) (by decide)
  rw [row_w0 _ _ _ _ (by decide), row_w0 _ _ _ _ (by decide)] at R1
  refine dr_of SR.r12 ⟨vp61 hk60 SR.n12, dr_of SR.r14 ⟨vp61 hk60 SR.n14, s130 R1 (fun c => ?_) (fun c h3 R3 => ?_)⟩⟩
  · have R2 := R1.wI (t := 21) 1 k (-1) (by decide) (by decide)
    rw [row_w0 _ _ _ _ (by decide)] at R2
    have fin : ∀ {q pa : Nat} {per t : Int32} {g : Hp}, pa ≤ 10 → RtN (rowH H k (st (st (st (st sh 0 0) 2 (-1)) 1 (-1)) 0 (nI pa))) g 0 1 n tx q → (pa = 0 → fldS (kd tx n) (np tx n) p = (none, q)) → (¬ pa = 0 → fldS (kd tx n) (np tx n) p = fld2 (kd tx n) (np tx n) pa (np tx n q)) → P 108 [vR 11 (some 0), vI (nI k), vI per, vI t] [] g := by
      intro q pa per t g hpa Rg f0 f1
      refine f108 hP S hk60 hpa Rg (st_eq _ _ _) (fun z => k0 _ _ _ (f0 z) Rg) (fun z sh' h' p' e R' => k0 sh' h' p' ((f1 z).trans e) R') (fun z a b c sh' h' p' e a0 a1 a2 a3 R' => k1 a b c sh' h' p' ((f1 z).trans e) a0 a1 a2 (fun j hj => ?_) R')
      rw [a3 j hj, st_ne (by omega), st_ne (by omega), st_ne (by omega), st_ne (by omega)]
    have z0 : st (st (st sh 0 0) 2 (-1)) 1 (-1) 0 = 0 := by rw [st_ne (by decide), st_ne (by decide), st_eq]
    refine dr_of SR.r13 ⟨vp61 hk60 SR.n13, dr_of SR.r13 ⟨vp61 hk60 SR.n13, fun _ => s134 (i := 70) R2 (by decide +kernel) (fun c2 h7 R7 => ?_) (fun c2 => ?_), fun y => absurd (jI_same _ _ _ _ _) y⟩⟩
    · refine ⟨fun y => absurd y (by decide), fun _ => v129_59 hP 0 (nI k) 1 1 _ ?_⟩
      refine f60 (hi := 5) hP S hk60 (Or.inr ⟨by decide, rfl⟩) 5 1 _ _ rfl (by decide) z0 R7 (fun h' x R' => ?_)
      rw [fm_per] at R'
      have hl : lnS (kd tx n (np tx n p)) ≤ 5 := by unfold lnS; (repeat' split) <;> omega
      refine fin (by omega) R' (fun y => ?_) (fun y => ?_)
      · unfold fldS; rw [if_neg c, if_pos c2, if_pos y]
      · unfold fldS; rw [if_neg c, if_pos c2, if_neg y]
    · refine ⟨fun _ => v129_59 hP 0 (nI k) 0 6 _ ?_, fun y => absurd rfl y⟩
      refine f60 (hi := 10) hP S hk60 (Or.inl ⟨rfl, rfl⟩) 5 6 _ _ rfl (by decide) z0 R2 (fun h' x R' => ?_)
      rw [fm_not] at R'
      by_cases c3 : 71 ≤ kd tx n p ∧ kd tx n p ≤ 75
      · rw [if_pos c3] at R'
        refine fin (by omega) R' (fun y => by omega) (fun y => ?_)
        unfold fldS; rw [if_neg c, if_neg c2, if_pos c3]
      · rw [if_neg c3] at R'
        refine fin (by omega) R' (fun y => ?_) (fun y => absurd rfl y)
        unfold fldS; rw [if_neg c, if_neg c2, if_neg c3]
  · have S3 : RSh h3 := S.of R3.R R3.len
    have R4 := R3.wI (t := 21) 1 k (nI (kd tx n p)) (by decide) (by decide)
    rw [row_w0 _ _ _ _ (by decide)] at R4
    refine dr_of SR.r13 ⟨vp61 hk60 S3.n13, dr_of S3.r13 ⟨vp61 hk60 S3.n13, fun y => absurd y (by rw [jI_same]; exact nI_m1 (by omega)), fun _ => ⟨_, rfl, k1 0 (kd tx n p) 99 _ _ (np tx n p) (by unfold fldS; rw [if_pos c]) ?_ ?_ ?_ ?_ R4⟩⟩⟩
    · rw [st_ne (by decide), st_ne (by decide), st_eq]; rfl
    · rw [st_eq]
    · rw [st_ne (by decide), st_eq]; rfl
    · intro j hj; rw [st_ne (by omega), st_ne (by omega), st_ne (by omega)]
