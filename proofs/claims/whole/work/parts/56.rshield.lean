/-! the reference's shield() -/
theorem looS_eq (kd np : Nat → Nat) (f l p : Nat) (sh : Nat → Int32) : looS kd np (f + 1) l p sh = (if kd p = 200 then (some sh, p) else match memS kd np l p with
    | (none, q) => (none, q)
    | (some (pl, r), q) => looS kd np f (pl + 1) q (putS sh pl r)) := rfl
theorem looS_n {kd np : Nat → Nat} {f l p q : Nat} {sh : Nat → Int32} (h : ¬ kd p = 200) (e : memS kd np l p = (none, q)) : looS kd np (f + 1) l p sh = (none, q) := by
  rw [looS_eq, if_neg h, e]
theorem looS_s {kd np : Nat → Nat} {f l p q pl : Nat} {sh r : Nat → Int32} (h : ¬ kd p = 200) (e : memS kd np l p = (some (pl, r), q)) : looS kd np (f + 1) l p sh = looS kd np f (pl + 1) q (putS sh pl r) := by
  rw [looS_eq, if_neg h, e]
theorem row_ext {H : Hp} {k : Nat} {sh sh' : Nat → Int32} (h : ∀ j, j < 66 → sh j = sh' j) : rowH H k sh = rowH H k sh' := by
  have : rowI (jI H) k sh = rowI (jI H) k sh' := by
    funext t a j
    unfold rowI
    by_cases e1 : t = 21 ∧ a < 3 ∧ j = k
    · rw [if_pos e1, if_pos e1, h a (by omega)]
    · rw [if_neg e1, if_neg e1]
      by_cases e2 : t = 21 ∧ a = 3 ∧ 63 * k ≤ j ∧ j < 63 * k + 63
      · rw [if_pos e2, if_pos e2, h _ (by omega)]
      · rw [if_neg e2, if_neg e2]
  unfold rowH
  rw [this]
/-- the cells of shield k as they stand -/
def curS (H : Hp) (k : Nat) : Nat → Int32 := fun j => if j < 3 then jI H 21 j k else jI H 21 3 (63 * k + (j - 3))
theorem row_cur (H : Hp) (k : Nat) : rowH H k (curS H k) = H := by
  have : rowI (jI H) k (curS H k) = jI H := by
    funext t a j
    unfold rowI curS
    by_cases e1 : t = 21 ∧ a < 3 ∧ j = k
    · rw [if_pos e1, if_pos e1.2.1, e1.1, e1.2.2]
    · rw [if_neg e1]
      by_cases e2 : t = 21 ∧ a = 3 ∧ 63 * k ≤ j ∧ j < 63 * k + 63
      · rw [if_pos e2, if_neg (by omega), e2.1, e2.2.1, show 63 * k + (3 + (j - 63 * k) - 3) = j by omega]
      · rw [if_neg e2]
  exact Hp_ext rfl rfl this rfl rfl rfl rfl
theorem e17 {d k pl : Nat} {H : Hp} {Q : Option AV → Hp → Prop} {P : Nat → List AV → List AV → Hp → Prop} (hP : Cl (Call d) 123 Q P) (S : RSh H) (hk : k ≤ 60) (hpl : pl < 7) : ∀ (mm i : Nat) (sh : Nat → Int32), i + mm = 9 → (∀ j, j < i → sh (3 + 9 * pl + j) = emR j) → (∀ sh', (∀ j, j < 9 → sh' (3 + 9 * pl + j) = emR j) → (∀ j, ¬ (3 + 9 * pl ≤ j ∧ j < 3 + 9 * pl + 9) → sh' j = sh j) → P 2 [vR 11 (some 0), vI (nI k), vI (nI pl + 1), vI (nI (63 * k + 9 * pl)), vI 9] [] (rowH H k sh')) → P 17 [vR 11 (some 0), vI (nI k), vI (nI pl), vI (nI (63 * k + 9 * pl)), vI (nI i)] [] (rowH H k sh)
  | 0, i, sh, hi, he, kk => by
    have e : i = 9 := by omega
    subst e
    exact v123_17 hP 0 (nI k) (nI pl) _ (nI 9) _ ⟨fun _ => kk sh he (fun _ _ => rfl), fun c => absurd (by decide) c⟩
  | mm + 1, i, sh, hi, he, kk => by
    have SR : RSh (rowH H k sh) := S.of rfl rfl
    have eI : nI (63 * k + 9 * pl) + nI i = nI (63 * k + (9 * pl + i)) := by rw [nI_add]; congr 1; omega
    have ic : ix (nI (63 * k + (9 * pl + i))) = 63 * k + (9 * pl + i) := nI_clamp (by omega)
    have go : ∀ v, v = emR i → P 17 [vR 11 (some 0), vI (nI k), vI (nI pl), vI (nI (63 * k + 9 * pl)), vI (nI i + 1)] [] (wI (rowH H k sh) 21 3 (63 * k + (9 * pl + i)) v) := by
      intro v hv
      rw [row_w3 _ _ _ _ (by omega), nI_1]
      refine e17 hP S hk hpl mm (i + 1) _ (by omega) (fun j hj => ?_) (fun sh' h1 h2 => kk sh' h1 (fun j hj => ?_))
      · by_cases z : j = i
        · rw [z, show 3 + 9 * pl + i = 3 + (9 * pl + i) by omega, st_eq, hv]
        · rw [st_ne (by omega)]; exact he j (by omega)
      · rw [h2 j hj, st_ne (by omega)]
    refine v123_17 hP 0 (nI k) (nI pl) _ (nI i) _ ⟨fun c => absurd c (nI_ge (b := 9) (by omega) (by omega)), fun _ => ?_⟩
    rw [eI, ic]
    refine ⟨fun c => dr_of SR.r15 ⟨vp3843 hk hpl (by omega) SR.n15, go _ ?_⟩, fun c => dr_of SR.r15 ⟨vp3843 hk hpl (by omega) SR.n15, go _ ?_⟩⟩
    · have c : 4 ≤ i := (nI_leI (a := 4) (by omega) (by omega)).mp c
      unfold emR
      rw [if_neg (by omega)]
    · have c : ¬ 4 ≤ i := fun z => c ((nI_leI (a := 4) (by omega) (by omega)).mpr z)
      unfold emR
      rw [if_pos (by omega)]
theorem e2 {d k : Nat} {H : Hp} {Q : Option AV → Hp → Prop} {P : Nat → List AV → List AV → Hp → Prop} (hP : Cl (Call (d + 1)) 123 Q P) (S : RSh H) (hk : k ≤ 60) : ∀ (mm pl : Nat) (sh : Nat → Int32) (w3 w4 : AV), pl + mm = 7 → (∀ q, q < pl → ∀ j, j < 9 → sh (3 + 9 * q + j) = emR j) → (∀ sh', (∀ q, q < 7 → ∀ j, j < 9 → sh' (3 + 9 * q + j) = emR j) → Q none (rowH H k sh')) → P 2 [vR 11 (some 0), vI (nI k), vI (nI pl), w3, w4] [] (rowH H k sh)
  | 0, pl, sh, w3, w4, hpl, he, kk => by
    have e : pl = 7 := by omega
    subst e
    exact v123_2 hP 0 (nI k) (nI 7) w3 w4 _ ⟨fun _ => kk sh he, fun c => absurd (by decide) c⟩
  | mm + 1, pl, sh, w3, w4, hpl, he, kk => by
    have ex : (nI k * 7 + nI pl) * 9 = nI (63 * k + 9 * pl) := by
      show (nI k * nI 7 + nI pl) * nI 9 = _
      rw [pk_mul, nI_add, pk_mul]; congr 1; omega
    refine v123_2 hP 0 (nI k) (nI pl) w3 w4 _ ⟨fun c => absurd c (nI_ge (b := 7) (by omega) (by omega)), fun _ => s124 ?_⟩
    rw [ex]
    refine e17 (i := 0) hP S hk (by omega) 9 sh rfl (fun j hj => by omega) (fun sh' h1 h2 => ?_)
    rw [nI_1]
    refine e2 hP S hk mm (pl + 1) sh' _ _ (by omega) (fun q hq j hj => ?_) kk
    by_cases z : q = pl
    · rw [z]; exact h1 j hj
    · rw [h2 _ (by omega)]; exact he q (by omega) j hj
/-- empties(k) -/
theorem s123 {d k : Nat} {H : Hp} {K : Hp → Prop} (S : RSh H) (hk : k ≤ 60) (kk : ∀ sh', (∀ q, q < 7 → ∀ j, j < 9 → sh' (3 + 9 * q + j) = emR j) → K (rowH H k sh')) : CV (d + 2) 123 [vR 11 (some 0), vI (nI k)] H K := by
  intro P hP
  have := e2 (pl := 0) hP S hk 7 (curS H k) un un rfl (fun q hq => by omega) (fun sh' h => ⟨rfl, kk sh' h⟩)
  rw [row_cur] at this
  exact v123 hP 0 (nI k) H this
/-- the first token -/
theorem s125i {d o a n p : Nat} {tx : Nat → Int32} {H : Hp} {K : Hp → Prop} (T : RtX H o a n tx) (hx : jI H 11 o 6 = nI p) (hp : p ≤ n) (k : ∀ h', RtN H h' o a n tx p → K h') : CV (d + 2) 125 [vR 11 (some o)] H K := by
  refine s125 T hx hp (fun b vl t x dg hd tl hv => k _ ⟨⟨b, vl, t, x, dg, hd, tl, rfl⟩, ?_⟩)
  obtain ⟨e1, e2, e3, e4, e5, e6, e7⟩ := rtH_r H o b vl t x dg hd tl
  refine ⟨rtH_X T, hp, ?_⟩
  rw [e1, e2, e3, e4, e5, e6, e7]
  exact hv
theorem stg_b (l : Nat) : stg l ≤ 6 := by
  rcases Nat.lt_or_ge l 7 with z | z
  · have := (stg_f (show l ≤ 6 by omega)).1; omega
  · unfold stg
    rcases Nat.lt_or_ge l 8 with y | y
    · have : l = 7 := by omega
      subst this
      decide
    · rw [List.getD_eq_getElem?_getD, List.getElem?_eq_none (by show 8 ≤ l; exact y)]
      exact Nat.le_refl _
theorem r23 {d n k : Nat} {tx : Nat → Int32} {H : Hp} {K : Int32 → Hp → Prop} {P : Nat → List AV → List AV → Hp → Prop} (hP : Cl (Call (d + 6)) 122 (fun v h' => ∃ x, v = some (vI x) ∧ K x h') P) (S : RSh H) (hk : jI H 11 0 11 = nI k) (hk60 : k ≤ 60) (hB : Byt tx) : ∀ (f l p : Nat) (sh : Nat → Int32) (h : Hp), 7 ≤ f + l → l ≤ 7 → RtN (rowH H k sh) h 0 1 n tx p → (∀ pl, l ≤ pl → pl < 7 → ∀ i, i < 9 → sh (3 + 9 * pl + i) = emR i) → ((l = 1 ∨ l = 4) → ¬ kd tx n p = 79) → (∀ sh' h' p', looS (kd tx n) (np tx n) f l p sh = (none, p') → RtN (rowH H k sh') h' 0 1 n tx p' → K 0 h') → (∀ sh' h' p', looS (kd tx n) (np tx n) f l p sh = (some sh', p') → RtN (rowH H k sh') h' 0 1 n tx p' → K 1 h') → P 23 [vR 11 (some 0), vI (nI (stg l))] [] h := by
  intro f
  induction f using Nat.strongRecOn with
  | ind f ih =>
    intro l p sh h hfl hl R hem hon k0 k1
    have b44 := rt_byte (c := 44) R.2 hB (by decide) (by decide) (by decide)
    have b0 := rt_end R.2
    by_cases c44 : kd tx n p = 344
    · refine v122_23 hP 0 _ h ⟨fun z => absurd (b44.mpr c44) z, fun _ => ⟨fun c6 => ?_, fun c6 => ⟨_, rfl, ?_⟩⟩⟩
      · have hl7 : l ≤ 6 := by
          rcases Nat.lt_or_ge l 7 with z | z
          · omega
          · have : l = 7 := by omega
            subst this
            exact absurd rfl c6
        have em : memS (kd tx n) (np tx n) l p = comS (kd tx n) (np tx n) l (np tx n p) := by
          unfold memS
          rw [if_neg (by omega), if_neg (by omega)]
        obtain ⟨f', hf⟩ : ∃ f', f = f' + 1 := ⟨f - 1, by omega⟩
        subst hf
        have n200 : ¬ kd tx n p = 200 := by omega
        refine s125n R (fun h1 R1 => s137 R1 S hk hk60 hl7 hem (fun sh' h' p' e R' => ⟨fun z => absurd rfl z, fun _ => ⟨_, rfl, k0 _ _ _ (looS_n n200 (em.trans e)) R'⟩⟩) (fun pl r h' p' e hp1 hp2 hon' R' => ⟨fun _ => ?_, fun z => absurd (nI_m1 (by have := stg_b (pl + 1); omega)) z⟩) (fun pl r p1 sh' h' p' e hp1 hp2 h79 e2 R' => ⟨fun z => absurd rfl z, fun _ => ⟨_, rfl, k0 _ _ _ ?_ R'⟩⟩) (fun pl r p1 r' h' p' e hp1 hp2 h79 e2 R' => ⟨fun _ => ?_, fun z => absurd (nI_m1 (by have := stg_b (pl + 2); omega)) z⟩))
        · have el := looS_s (f := f') (sh := sh) n200 (em.trans e)
          rw [el] at k0 k1
          refine ih f' (by omega) (pl + 1) p' _ h' (by omega) (by omega) R' (fun q hq1 hq2 i hi => ?_) (fun z => hon' (by omega)) k0 k1
          rw [put_out hi (by omega)]
          exact hem q (by omega) hq2 i hi
        · obtain ⟨f2, hf2⟩ : ∃ f2, f' = f2 + 1 := ⟨f' - 1, by omega⟩
          subst hf2
          have e3 : memS (kd tx n) (np tx n) (pl + 1) p1 = (none, p') := by
            unfold memS
            rw [if_pos ⟨by omega, h79⟩, e2]
          rw [looS_s n200 (em.trans e), looS_n (by omega) e3]
        · obtain ⟨f2, hf2⟩ : ∃ f2, f' = f2 + 1 := ⟨f' - 1, by omega⟩
          subst hf2
          have e3 : memS (kd tx n) (np tx n) (pl + 1) p1 = (some (pl + 1, r'), p') := by
            unfold memS
            rw [if_pos ⟨by omega, h79⟩, e2]
          rw [looS_s n200 (em.trans e), looS_s (by omega) e3] at k0 k1
          refine ih f2 (by omega) (pl + 2) p' _ h' (by omega) (by omega) R' (fun q hq1 hq2 i hi => ?_) (fun z => by omega) k0 k1
          rw [put_out hi (by omega), put_out hi (by omega)]
          exact hem q (by omega) hq2 i hi
      · have l7 : l = 7 := by
          rcases Nat.lt_or_ge l 7 with z | z
          · have y := (nI_eq (a := stg l) (b := 6) (by have := stg_b l; omega) (by omega)).mp (Classical.not_not.mp c6)
            have := (stg_f (show l ≤ 6 by omega)).1
            omega
          · omega
        refine k0 _ _ p ?_ R
        cases f with
        | zero => unfold looS; rw [if_neg (by omega)]
        | succ f => exact looS_n (by omega) (by unfold memS; rw [if_neg (by omega), if_pos (Or.inl l7)])
    · refine v122_23 hP 0 _ h ⟨fun _ => ⟨fun z => ⟨_, rfl, ?_⟩, fun z => ⟨_, rfl, ?_⟩⟩, fun z => absurd (fun y => c44 (b44.mp y)) z⟩
      · have n200 : ¬ kd tx n p = 200 := fun y => z (b0.mpr y)
        refine k0 _ _ p ?_ R
        cases f with
        | zero => unfold looS; rw [if_neg n200]
        | succ f =>
          refine looS_n n200 ?_
          unfold memS
          rw [if_neg (fun y => hon y.1 y.2), if_pos (Or.inr c44)]
      · have y200 : kd tx n p = 200 := b0.mp (Classical.not_not.mp z)
        refine k1 sh _ p ?_ R
        cases f with
        | zero => unfold looS; rw [if_pos y200]
        | succ f => rw [looS_eq, if_pos y200]
/-- shield() -/
theorem s122 {d n k : Nat} {tx : Nat → Int32} {H : Hp} {K : Int32 → Hp → Prop} (T : RtX H 0 1 n tx) (hx : jI H 11 0 6 = nI 0) (S : RSh H) (hk : jI H 11 0 11 = nI k) (hk60 : k ≤ 60) (hB : Byt tx) (k0 : ∀ sh' h' p', shiS (kd tx n) (np tx n) = (none, p') → RtN (rowH H k sh') h' 0 1 n tx p' → K 0 h') (k1 : ∀ sh' h' p', shiS (kd tx n) (np tx n) = (some sh', p') → RtN (rowH H k sh') h' 0 1 n tx p' → K 1 h') : CI (d + 7) 122 [vR 11 (some 0)] H K := by
  intro P hP
  refine v122 hP 0 H ?_
  rw [hk]
  refine s123 S hk60 (fun sh0 he => s125i (p := 0) (a := 1) (n := n) (tx := tx) ?_ ?_ (Nat.zero_le _) (fun h1 R1 => ?_))
  · refine ⟨T.1, ?_, T.2.2.1, T.2.2.2.1, fun j hj => ?_⟩
    · rw [row_t (by decide)]; exact T.2.1
    · rw [row_t (by decide)]; exact T.2.2.2.2 j hj
  · rw [row_t (by decide)]; exact hx
  · unfold shiS at k0 k1
    refine s129 R1 S hk hk60 (fun sh' h' p' e R' => ⟨fun z => absurd rfl z, fun _ => ⟨_, rfl, k0 _ _ _ (by rw [e]) R'⟩⟩) (fun a b c sh' h' p' e a0 a1 a2 a3 R' => ⟨fun _ => ?_, fun z => absurd (by decide) z⟩)
    rw [e] at k0 k1
    have ei : ∀ q, q < 7 → ∀ j, j < 9 → iniS a b c (3 + 9 * q + j) = emR j := by
      intro q hq j hj
      unfold iniS
      rw [if_neg (by omega), if_neg (by omega), if_neg (by omega), show (3 + 9 * q + j - 3) % 9 = j by omega]
    have ex : rowH H k sh' = rowH H k (iniS a b c) := by
      refine row_ext (fun j hj => ?_)
      by_cases z0 : j = 0
      · rw [z0, a0]; rfl
      · by_cases z1 : j = 1
        · rw [z1, a1]; rfl
        · by_cases z2 : j = 2
          · rw [z2, a2]; rfl
          · have e1 := he ((j - 3) / 9) (by omega) ((j - 3) % 9) (by omega)
            have e2 := ei ((j - 3) / 9) (by omega) ((j - 3) % 9) (by omega)
            have e3 : 3 + 9 * ((j - 3) / 9) + (j - 3) % 9 = j := by omega
            rw [e3] at e1 e2
            rw [a3 j (by omega), e1, e2]
    rw [ex] at R'
    exact r23 hP S hk hk60 hB 7 0 p' _ h' (by decide) (by decide) R' (fun pl _ hp i hi => ei pl hp i hi) (fun z => by omega) k0 k1
