/-- charges(place, n, kind) -/
theorem s148 {d n k pl kind m p : Nat} {tx : Nat → Int32} {H h : Hp} {sh : Nat → Int32} {K : Int32 → Hp → Prop} (R : RtN (rowH H k sh) h 0 1 n tx p) (S : RSh H) (hk : jI H 11 0 11 = nI k) (hk60 : k ≤ 60) (hpl : pl < 7) (hem : ∀ i, i < 9 → sh (3 + 9 * pl + i) = emR i) (h16 : 16 ≤ kind) (h29 : kind ≤ 29) (k0 : ∀ sh' h' p', chgS (kd tx n) (np tx n) kind m p = (none, p') → RtN (rowH H k sh') h' 0 1 n tx p' → K 0 h') (k1 : ∀ r h' p', chgS (kd tx n) (np tx n) kind m p = (some r, p') → RtN (rowH H k (putS sh pl r)) h' 0 1 n tx p' → K 1 h') : CI (d + 4) 148 [vR 11 (some 0), vI (nI pl), vI (nI m), vI (nI kind)] h K := by
  intro P hP
  refine v148 hP 0 (nI pl) (nI m) (nI kind) h (s125n R (fun h1 R1 => s124 ?_))
  have hk1 : jI h1 11 0 11 = nI k := by rw [R1.Io (by decide), row_t (by decide)]; exact hk
  have ex : (nI k * 7 + nI pl) * 9 = nI (63 * k + 9 * pl) := by
    show (nI k * nI 7 + nI pl) * nI 9 = _
    rw [pk_mul, nI_add, pk_mul]; congr 1; omega
  have e2 : nI (63 * k + 9 * pl) + 2 = nI (63 * k + (9 * pl + 2)) := by
    show nI (63 * k + 9 * pl) + nI 2 = _
    rw [nI_add]; congr 1
  have ic0 : ix (nI (63 * k + 9 * pl)) = 63 * k + (9 * pl + 0) := nI_clamp (by omega)
  have ic2 : ix (nI (63 * k + (9 * pl + 2))) = 63 * k + (9 * pl + 2) := nI_clamp (by omega)
  have S1 : RSh h1 := S.of R1.R R1.len
  rw [hk1, ex, e2, ic0, ic2]
  rw [← put_self hem] at R1
  have R2 := (R1.part (i := 0) (nI kind) hpl (by omega)).part (i := 2) (nI m) hpl (by omega)
  have r3 : st (st emR 0 (nI kind)) 2 (nI m) 3 = 0 := by
    rw [st_ne (by decide), st_ne (by decide)]; rfl
  refine dr_of S1.r15 ⟨vp3843 (i := 0) hk60 hpl (by omega) S1.n15, dr_of S1.r15 ⟨vp3843 hk60 hpl (by omega) S1.n15, s149 h16 (by omega) ?_⟩⟩
  rw [in3 h16 h29]
  unfold chgS at k0 k1
  by_cases c18 : kind ≤ 18
  · rw [if_pos (show kind ≤ 19 by omega)] at k0 k1
    rw [decide_eq_true c18]
    refine ⟨fun z => absurd z (by decide), fun _ => s149 h16 (by omega) ?_⟩
    rw [in3 h16 h29, decide_eq_true c18]
    refine ⟨fun z => absurd z (by decide), fun _ => ?_⟩
    have ea : ∀ c, atK kind c = decide (60 ≤ c ∧ c ≤ 62) := fun c => if_neg (by omega)
    refine c91 (hi := 3) hP S hk60 hpl h16 h29 (by decide) 3 1 _ _ rfl (by decide) R2 (Or.inl r3) (fun _ z h' R' => k0 _ _ _ ?_ R') (fun r' z => ?_)
    · rw [if_neg (by rw [ea, decide_eq_true_eq]; omega)]
    · rcases z with z | z
      · exact absurd r3 z.1
      · rw [if_pos (by rw [ea, decide_eq_true_eq]; omega)] at k0 k1
        rw [z.2.2.2]
        exact ⟨k0, k1⟩
  · rw [decide_eq_false c18]
    refine ⟨fun _ => ⟨fun z => s149 h16 (by omega) ?_, fun z => s149 h16 (by omega) ?_⟩, fun z => absurd rfl z⟩
    · have c19 : ¬ kind = 19 := fun y => z (by rw [y]; rfl)
      rw [if_neg (show ¬ kind ≤ 19 by omega)] at k0 k1
      rw [in3 h16 h29, decide_eq_false c18]
      refine ⟨fun _ => ⟨fun _ => ?_, fun y => absurd z y⟩, fun y => absurd rfl y⟩
      exact c130 hP S hk60 hpl h16 h29 R2.R R2 k0 k1
    · have c19 : kind = 19 := (nI_eq (a := kind) (b := 19) (by omega) (by omega)).mp (Classical.not_not.mp z)
      rw [if_pos (show kind ≤ 19 by omega)] at k0 k1
      rw [in3 h16 h29, decide_eq_false c18]
      refine ⟨fun _ => ⟨fun y => absurd (by rw [c19]; rfl) y, fun _ => ?_⟩, fun y => absurd rfl y⟩
      have ea : ∀ c, atK kind c = decide (63 ≤ c ∧ c ≤ 64) := fun c => if_pos c19
      refine c91 (hi := 5) hP S hk60 hpl h16 h29 (by decide) 2 4 _ _ rfl (by decide) R2 (Or.inl r3) (fun _ z h' R' => k0 _ _ _ ?_ R') (fun r' z => ?_)
      · rw [if_neg (by rw [ea, decide_eq_true_eq]; omega)]
      · rcases z with z | z
        · exact absurd r3 z.1
        · rw [if_pos (by rw [ea, decide_eq_true_eq]; omega)] at k0 k1
          rw [z.2.2.2]
          exact ⟨k0, k1⟩
theorem nmK_b (m c : Nat) : nmK m c = 0 ∨ (16 ≤ nmK m c ∧ nmK m c ≤ 29) := by
  unfold nmK
  split <;> split <;> omega
theorem chS_K (m c : Nat) : chS m c = if nmK m c = 0 then -1 else nI (nmK m c) := by
  unfold chS nmK
  by_cases z : m = 1
  · rw [if_pos z, if_pos z]
    by_cases y : 25 ≤ c ∧ c < 39
    · rw [if_pos y, if_pos y, if_neg (by omega)]
    · rw [if_neg y, if_neg y, if_pos rfl]
  · rw [if_neg z, if_neg z]
    by_cases y : 40 ≤ c ∧ c < 54
    · rw [if_pos y, if_pos y, if_neg (by omega)]
    · rw [if_neg y, if_neg y, if_pos rfl]
/-- puts(place, kind, t) -/
theorem s138 {d n k pl p : Nat} {kd2 t : Int32} {tx : Nat → Int32} {H h : Hp} {sh r : Nat → Int32} {K : Hp → Prop} (R : RtN (rowH H k (putS sh pl r)) h 0 1 n tx p) (S : RSh H) (hk : jI H 11 0 11 = nI k) (hk60 : k ≤ 60) (hpl : pl < 7) (kk : ∀ h', RtN (rowH H k (putS sh pl (st (st (st r 0 kd2) 1 t) 2 1))) h' 0 1 n tx p → K h') : CV (d + 2) 138 [vR 11 (some 0), vI (nI pl), vI kd2, vI t] h K := by
  intro P hP
  refine v138 hP 0 (nI pl) kd2 t h (s124 ?_)
  have hk1 : jI h 11 0 11 = nI k := by rw [R.Io (by decide), row_t (by decide)]; exact hk
  have ex : (nI k * 7 + nI pl) * 9 = nI (63 * k + 9 * pl) := by
    show (nI k * nI 7 + nI pl) * nI 9 = _
    rw [pk_mul, nI_add, pk_mul]; congr 1; omega
  have e1 : nI (63 * k + 9 * pl) + 1 = nI (63 * k + (9 * pl + 1)) := by rw [nI_1]; congr 1
  have e2 : nI (63 * k + 9 * pl) + 2 = nI (63 * k + (9 * pl + 2)) := by
    show nI (63 * k + 9 * pl) + nI 2 = _
    rw [nI_add]; congr 1
  have ic0 : ix (nI (63 * k + 9 * pl)) = 63 * k + (9 * pl + 0) := nI_clamp (by omega)
  have ic1 : ix (nI (63 * k + (9 * pl + 1))) = 63 * k + (9 * pl + 1) := nI_clamp (by omega)
  have ic2 : ix (nI (63 * k + (9 * pl + 2))) = 63 * k + (9 * pl + 2) := nI_clamp (by omega)
  have S1 : RSh h := S.of R.R R.len
  rw [hk1, ex, e1, e2, ic0, ic1, ic2]
  have R2 := ((R.part (i := 0) kd2 hpl (by omega)).part (i := 1) t hpl (by omega)).part (i := 2) 1 hpl (by omega)
  exact dr_of S1.r15 ⟨vp3843 (i := 0) hk60 hpl (by omega) S1.n15, dr_of S1.r15 ⟨vp3843 hk60 hpl (by omega) S1.n15, dr_of S1.r15 ⟨vp3843 hk60 hpl (by omega) S1.n15, rfl, kk _ R2⟩⟩⟩
